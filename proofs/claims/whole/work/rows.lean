section
-- ===== PART A: goes FIRST, ahead of the names: the tables' words, and 'selects' of the private methods out of them =====
/-- a private method of a class that the tables say can be made, by its rows of tables_1 -/
def lw_okq (q : MethodName × Nat) : Prop := (q.1.cls ≠ "java/lang/invoke/MethodHandle" ∧ q.1.cls ≠ "java/lang/invoke/VarHandle") ∧ Cond.instantiable q.1.cls q.2 ∈ tables_1 ∧ Cond.privateMethod q.1 ∈ tables_1 ∧ Cond.instanceMethod q.1 ∈ tables_1
theorem lw_p0 : lw_okq (⟨"RoadTrace", "forgetWays", "()V"⟩, 8) := ⟨⟨by decide +kernel, by decide +kernel⟩, List.mem_of_getElem? (i := 9) (by decide +kernel), List.mem_of_getElem? (i := 194) (by decide +kernel), List.mem_of_getElem? (i := 195) (by decide +kernel)⟩
theorem lw_p1 : lw_okq (⟨"RoadTrace$Net", "isAtKnot", "(II)Z"⟩, 10) := ⟨⟨by decide +kernel, by decide +kernel⟩, List.mem_of_getElem? (i := 17) (by decide +kernel), List.mem_of_getElem? (i := 226) (by decide +kernel), List.mem_of_getElem? (i := 227) (by decide +kernel)⟩
theorem lw_p2 : lw_okq (⟨"RoadTrace$Ways", "know", "(I)V"⟩, 4) := ⟨⟨by decide +kernel, by decide +kernel⟩, List.mem_of_getElem? (i := 65) (by decide +kernel), List.mem_of_getElem? (i := 250) (by decide +kernel), List.mem_of_getElem? (i := 251) (by decide +kernel)⟩
theorem lw_p3 : lw_okq (⟨"RoadTrace$Ways", "turnFrom", "(III)V"⟩, 4) := ⟨⟨by decide +kernel, by decide +kernel⟩, List.mem_of_getElem? (i := 65) (by decide +kernel), List.mem_of_getElem? (i := 255) (by decide +kernel), List.mem_of_getElem? (i := 256) (by decide +kernel)⟩
theorem lw_p4 : lw_okq (⟨"RoadTrace$Ways", "nearestOpen", "(II)I"⟩, 4) := ⟨⟨by decide +kernel, by decide +kernel⟩, List.mem_of_getElem? (i := 65) (by decide +kernel), List.mem_of_getElem? (i := 259) (by decide +kernel), List.mem_of_getElem? (i := 260) (by decide +kernel)⟩
theorem lw_p5 : lw_okq (⟨"RoadTrace$Ways", "alongOneRoad", "(II)I"⟩, 4) := ⟨⟨by decide +kernel, by decide +kernel⟩, List.mem_of_getElem? (i := 65) (by decide +kernel), List.mem_of_getElem? (i := 267) (by decide +kernel), List.mem_of_getElem? (i := 268) (by decide +kernel)⟩
theorem lw_p6 : lw_okq (⟨"RoadTrace$Ways", "throughTurns", "(III)I"⟩, 4) := ⟨⟨by decide +kernel, by decide +kernel⟩, List.mem_of_getElem? (i := 65) (by decide +kernel), List.mem_of_getElem? (i := 274) (by decide +kernel), List.mem_of_getElem? (i := 275) (by decide +kernel)⟩
theorem lw_p7 : lw_okq (⟨"RoadTrace", "findDrive", "(I)LRoadTrace$Drive;"⟩, 8) := ⟨⟨by decide +kernel, by decide +kernel⟩, List.mem_of_getElem? (i := 9) (by decide +kernel), List.mem_of_getElem? (i := 323) (by decide +kernel), List.mem_of_getElem? (i := 324) (by decide +kernel)⟩
theorem lw_p8 : lw_okq (⟨"RoadTrace$Laying", "findSpots", "(IIII)V"⟩, 16) := ⟨⟨by decide +kernel, by decide +kernel⟩, List.mem_of_getElem? (i := 85) (by decide +kernel), List.mem_of_getElem? (i := 355) (by decide +kernel), List.mem_of_getElem? (i := 356) (by decide +kernel)⟩
theorem lw_p9 : lw_okq (⟨"RoadTrace$Laying", "addSpot", "(III)V"⟩, 16) := ⟨⟨by decide +kernel, by decide +kernel⟩, List.mem_of_getElem? (i := 85) (by decide +kernel), List.mem_of_getElem? (i := 366) (by decide +kernel), List.mem_of_getElem? (i := 367) (by decide +kernel)⟩
theorem lw_p10 : lw_okq (⟨"RoadTrace$Laying", "worstSlot", "(I)I"⟩, 16) := ⟨⟨by decide +kernel, by decide +kernel⟩, List.mem_of_getElem? (i := 85) (by decide +kernel), List.mem_of_getElem? (i := 370) (by decide +kernel), List.mem_of_getElem? (i := 371) (by decide +kernel)⟩
theorem lw_p11 : lw_okq (⟨"RoadTrace$Laying", "findRowTo", "(II[I)V"⟩, 16) := ⟨⟨by decide +kernel, by decide +kernel⟩, List.mem_of_getElem? (i := 85) (by decide +kernel), List.mem_of_getElem? (i := 388) (by decide +kernel), List.mem_of_getElem? (i := 389) (by decide +kernel)⟩
theorem lw_p12 : lw_okq (⟨"RoadTrace$Laying", "longestLeg", "(I)I"⟩, 16) := ⟨⟨by decide +kernel, by decide +kernel⟩, List.mem_of_getElem? (i := 85) (by decide +kernel), List.mem_of_getElem? (i := 392) (by decide +kernel), List.mem_of_getElem? (i := 393) (by decide +kernel)⟩
theorem lw_p13 : lw_okq (⟨"RoadTrace$Laying", "legLength", "(III)I"⟩, 16) := ⟨⟨by decide +kernel, by decide +kernel⟩, List.mem_of_getElem? (i := 85) (by decide +kernel), List.mem_of_getElem? (i := 396) (by decide +kernel), List.mem_of_getElem? (i := 397) (by decide +kernel)⟩
theorem lw_p14 : lw_okq (⟨"RoadTrace$Laying", "isRowFirst", "(II)Z"⟩, 16) := ⟨⟨by decide +kernel, by decide +kernel⟩, List.mem_of_getElem? (i := 85) (by decide +kernel), List.mem_of_getElem? (i := 402) (by decide +kernel), List.mem_of_getElem? (i := 403) (by decide +kernel)⟩
theorem lw_p15 : lw_okq (⟨"RoadTrace$Laying", "writeRow", "(I[I)V"⟩, 16) := ⟨⟨by decide +kernel, by decide +kernel⟩, List.mem_of_getElem? (i := 85) (by decide +kernel), List.mem_of_getElem? (i := 406) (by decide +kernel), List.mem_of_getElem? (i := 407) (by decide +kernel)⟩
def lw_privs_1 : List (MethodName × Nat) := [(⟨"RoadTrace", "forgetWays", "()V"⟩, 8), (⟨"RoadTrace$Net", "isAtKnot", "(II)Z"⟩, 10), (⟨"RoadTrace$Ways", "know", "(I)V"⟩, 4), (⟨"RoadTrace$Ways", "turnFrom", "(III)V"⟩, 4), (⟨"RoadTrace$Ways", "nearestOpen", "(II)I"⟩, 4), (⟨"RoadTrace$Ways", "alongOneRoad", "(II)I"⟩, 4), (⟨"RoadTrace$Ways", "throughTurns", "(III)I"⟩, 4), (⟨"RoadTrace", "findDrive", "(I)LRoadTrace$Drive;"⟩, 8), (⟨"RoadTrace$Laying", "findSpots", "(IIII)V"⟩, 16), (⟨"RoadTrace$Laying", "addSpot", "(III)V"⟩, 16), (⟨"RoadTrace$Laying", "worstSlot", "(I)I"⟩, 16), (⟨"RoadTrace$Laying", "findRowTo", "(II[I)V"⟩, 16), (⟨"RoadTrace$Laying", "longestLeg", "(I)I"⟩, 16), (⟨"RoadTrace$Laying", "legLength", "(III)I"⟩, 16), (⟨"RoadTrace$Laying", "isRowFirst", "(II)Z"⟩, 16), (⟨"RoadTrace$Laying", "writeRow", "(I[I)V"⟩, 16)]
theorem lw_r1 : ∀ q ∈ lw_privs_1, lw_okq q := List.forall_mem_cons.mpr ⟨lw_p0, List.forall_mem_cons.mpr ⟨lw_p1, List.forall_mem_cons.mpr ⟨lw_p2, List.forall_mem_cons.mpr ⟨lw_p3, List.forall_mem_cons.mpr ⟨lw_p4, List.forall_mem_cons.mpr ⟨lw_p5, List.forall_mem_cons.mpr ⟨lw_p6, List.forall_mem_cons.mpr ⟨lw_p7, List.forall_mem_cons.mpr ⟨lw_p8, List.forall_mem_cons.mpr ⟨lw_p9, List.forall_mem_cons.mpr ⟨lw_p10, List.forall_mem_cons.mpr ⟨lw_p11, List.forall_mem_cons.mpr ⟨lw_p12, List.forall_mem_cons.mpr ⟨lw_p13, List.forall_mem_cons.mpr ⟨lw_p14, List.forall_mem_cons.mpr ⟨lw_p15, fun _ h => absurd h List.not_mem_nil⟩⟩⟩⟩⟩⟩⟩⟩⟩⟩⟩⟩⟩⟩⟩⟩
theorem lw_p16 : lw_okq (⟨"RoadTrace$Laying", "countSame", "([I[I)I"⟩, 16) := ⟨⟨by decide +kernel, by decide +kernel⟩, List.mem_of_getElem? (i := 85) (by decide +kernel), List.mem_of_getElem? (i := 410) (by decide +kernel), List.mem_of_getElem? (i := 411) (by decide +kernel)⟩
theorem lw_p17 : lw_okq (⟨"RoadTrace$Laying", "chooseLeast", "()V"⟩, 16) := ⟨⟨by decide +kernel, by decide +kernel⟩, List.mem_of_getElem? (i := 85) (by decide +kernel), List.mem_of_getElem? (i := 414) (by decide +kernel), List.mem_of_getElem? (i := 415) (by decide +kernel)⟩
theorem lw_p18 : lw_okq (⟨"RoadTrace$Laying", "costOfEnd", "(I)I"⟩, 16) := ⟨⟨by decide +kernel, by decide +kernel⟩, List.mem_of_getElem? (i := 85) (by decide +kernel), List.mem_of_getElem? (i := 418) (by decide +kernel), List.mem_of_getElem? (i := 419) (by decide +kernel)⟩
theorem lw_p19 : lw_okq (⟨"RoadTrace$Laying", "findSlot", "(II)I"⟩, 16) := ⟨⟨by decide +kernel, by decide +kernel⟩, List.mem_of_getElem? (i := 85) (by decide +kernel), List.mem_of_getElem? (i := 434) (by decide +kernel), List.mem_of_getElem? (i := 435) (by decide +kernel)⟩
theorem lw_p20 : lw_okq (⟨"RoadTrace$Laying", "ticksBetween", "(II)I"⟩, 16) := ⟨⟨by decide +kernel, by decide +kernel⟩, List.mem_of_getElem? (i := 85) (by decide +kernel), List.mem_of_getElem? (i := 442) (by decide +kernel), List.mem_of_getElem? (i := 443) (by decide +kernel)⟩
theorem lw_p21 : lw_okq (⟨"RoadTrace$Laying", "sameInEnd", "(I)I"⟩, 16) := ⟨⟨by decide +kernel, by decide +kernel⟩, List.mem_of_getElem? (i := 85) (by decide +kernel), List.mem_of_getElem? (i := 459) (by decide +kernel), List.mem_of_getElem? (i := 460) (by decide +kernel)⟩
theorem lw_p22 : lw_okq (⟨"RoadTrace$Laying", "nextNotLeft", "(I)I"⟩, 16) := ⟨⟨by decide +kernel, by decide +kernel⟩, List.mem_of_getElem? (i := 85) (by decide +kernel), List.mem_of_getElem? (i := 472) (by decide +kernel), List.mem_of_getElem? (i := 473) (by decide +kernel)⟩
theorem lw_p23 : lw_okq (⟨"RoadTrace", "changeKind", "(II)V"⟩, 8) := ⟨⟨by decide +kernel, by decide +kernel⟩, List.mem_of_getElem? (i := 9) (by decide +kernel), List.mem_of_getElem? (i := 488) (by decide +kernel), List.mem_of_getElem? (i := 489) (by decide +kernel)⟩
theorem lw_p24 : lw_okq (⟨"RoadTrace", "countSights", "()I"⟩, 8) := ⟨⟨by decide +kernel, by decide +kernel⟩, List.mem_of_getElem? (i := 9) (by decide +kernel), List.mem_of_getElem? (i := 497) (by decide +kernel), List.mem_of_getElem? (i := 498) (by decide +kernel)⟩
theorem lw_p25 : lw_okq (⟨"RoadTraceModel", "isKnot", "(I)Z"⟩, 32) := ⟨⟨by decide +kernel, by decide +kernel⟩, List.mem_of_getElem? (i := 501) (by decide +kernel), List.mem_of_getElem? (i := 615) (by decide +kernel), List.mem_of_getElem? (i := 616) (by decide +kernel)⟩
theorem lw_p26 : lw_okq (⟨"RoadTraceModel", "isRoad", "(I)Z"⟩, 32) := ⟨⟨by decide +kernel, by decide +kernel⟩, List.mem_of_getElem? (i := 501) (by decide +kernel), List.mem_of_getElem? (i := 623) (by decide +kernel), List.mem_of_getElem? (i := 624) (by decide +kernel)⟩
theorem lw_p27 : lw_okq (⟨"RoadTraceModel", "isPoint", "(I)Z"⟩, 32) := ⟨⟨by decide +kernel, by decide +kernel⟩, List.mem_of_getElem? (i := 501) (by decide +kernel), List.mem_of_getElem? (i := 631) (by decide +kernel), List.mem_of_getElem? (i := 632) (by decide +kernel)⟩
theorem lw_p28 : lw_okq (⟨"RoadTraceModel", "findWays", "()V"⟩, 32) := ⟨⟨by decide +kernel, by decide +kernel⟩, List.mem_of_getElem? (i := 501) (by decide +kernel), List.mem_of_getElem? (i := 635) (by decide +kernel), List.mem_of_getElem? (i := 636) (by decide +kernel)⟩
theorem lw_p29 : lw_okq (⟨"RoadTraceModel", "comeFrom", "(I)V"⟩, 32) := ⟨⟨by decide +kernel, by decide +kernel⟩, List.mem_of_getElem? (i := 501) (by decide +kernel), List.mem_of_getElem? (i := 639) (by decide +kernel), List.mem_of_getElem? (i := 640) (by decide +kernel)⟩
theorem lw_p30 : lw_okq (⟨"RoadTraceModel", "feeOf", "(II)I"⟩, 32) := ⟨⟨by decide +kernel, by decide +kernel⟩, List.mem_of_getElem? (i := 501) (by decide +kernel), List.mem_of_getElem? (i := 644) (by decide +kernel), List.mem_of_getElem? (i := 645) (by decide +kernel)⟩
theorem lw_p31 : lw_okq (⟨"RoadTraceModel", "come", "(III)Z"⟩, 32) := ⟨⟨by decide +kernel, by decide +kernel⟩, List.mem_of_getElem? (i := 501) (by decide +kernel), List.mem_of_getElem? (i := 648) (by decide +kernel), List.mem_of_getElem? (i := 649) (by decide +kernel)⟩
def lw_privs_2 : List (MethodName × Nat) := [(⟨"RoadTrace$Laying", "countSame", "([I[I)I"⟩, 16), (⟨"RoadTrace$Laying", "chooseLeast", "()V"⟩, 16), (⟨"RoadTrace$Laying", "costOfEnd", "(I)I"⟩, 16), (⟨"RoadTrace$Laying", "findSlot", "(II)I"⟩, 16), (⟨"RoadTrace$Laying", "ticksBetween", "(II)I"⟩, 16), (⟨"RoadTrace$Laying", "sameInEnd", "(I)I"⟩, 16), (⟨"RoadTrace$Laying", "nextNotLeft", "(I)I"⟩, 16), (⟨"RoadTrace", "changeKind", "(II)V"⟩, 8), (⟨"RoadTrace", "countSights", "()I"⟩, 8), (⟨"RoadTraceModel", "isKnot", "(I)Z"⟩, 32), (⟨"RoadTraceModel", "isRoad", "(I)Z"⟩, 32), (⟨"RoadTraceModel", "isPoint", "(I)Z"⟩, 32), (⟨"RoadTraceModel", "findWays", "()V"⟩, 32), (⟨"RoadTraceModel", "comeFrom", "(I)V"⟩, 32), (⟨"RoadTraceModel", "feeOf", "(II)I"⟩, 32), (⟨"RoadTraceModel", "come", "(III)Z"⟩, 32)]
theorem lw_r2 : ∀ q ∈ lw_privs_2, lw_okq q := List.forall_mem_cons.mpr ⟨lw_p16, List.forall_mem_cons.mpr ⟨lw_p17, List.forall_mem_cons.mpr ⟨lw_p18, List.forall_mem_cons.mpr ⟨lw_p19, List.forall_mem_cons.mpr ⟨lw_p20, List.forall_mem_cons.mpr ⟨lw_p21, List.forall_mem_cons.mpr ⟨lw_p22, List.forall_mem_cons.mpr ⟨lw_p23, List.forall_mem_cons.mpr ⟨lw_p24, List.forall_mem_cons.mpr ⟨lw_p25, List.forall_mem_cons.mpr ⟨lw_p26, List.forall_mem_cons.mpr ⟨lw_p27, List.forall_mem_cons.mpr ⟨lw_p28, List.forall_mem_cons.mpr ⟨lw_p29, List.forall_mem_cons.mpr ⟨lw_p30, List.forall_mem_cons.mpr ⟨lw_p31, fun _ h => absurd h List.not_mem_nil⟩⟩⟩⟩⟩⟩⟩⟩⟩⟩⟩⟩⟩⟩⟩⟩
theorem lw_p32 : lw_okq (⟨"RoadTraceModel", "goOn", "(I)Z"⟩, 32) := ⟨⟨by decide +kernel, by decide +kernel⟩, List.mem_of_getElem? (i := 501) (by decide +kernel), List.mem_of_getElem? (i := 652) (by decide +kernel), List.mem_of_getElem? (i := 653) (by decide +kernel)⟩
theorem lw_p33 : lw_okq (⟨"RoadTraceModel", "knotOf", "(I)I"⟩, 32) := ⟨⟨by decide +kernel, by decide +kernel⟩, List.mem_of_getElem? (i := 501) (by decide +kernel), List.mem_of_getElem? (i := 656) (by decide +kernel), List.mem_of_getElem? (i := 657) (by decide +kernel)⟩
theorem lw_p34 : lw_okq (⟨"RoadTraceModel", "reach", "(II)V"⟩, 32) := ⟨⟨by decide +kernel, by decide +kernel⟩, List.mem_of_getElem? (i := 501) (by decide +kernel), List.mem_of_getElem? (i := 660) (by decide +kernel), List.mem_of_getElem? (i := 661) (by decide +kernel)⟩
theorem lw_p35 : lw_okq (⟨"RoadTraceModel", "offer", "(III)V"⟩, 32) := ⟨⟨by decide +kernel, by decide +kernel⟩, List.mem_of_getElem? (i := 501) (by decide +kernel), List.mem_of_getElem? (i := 664) (by decide +kernel), List.mem_of_getElem? (i := 665) (by decide +kernel)⟩
theorem lw_p36 : lw_okq (⟨"RoadTraceModel", "isDrive", "(I)Z"⟩, 32) := ⟨⟨by decide +kernel, by decide +kernel⟩, List.mem_of_getElem? (i := 501) (by decide +kernel), List.mem_of_getElem? (i := 680) (by decide +kernel), List.mem_of_getElem? (i := 681) (by decide +kernel)⟩
theorem lw_p37 : lw_okq (⟨"RoadTraceModel", "isSight", "(II)Z"⟩, 32) := ⟨⟨by decide +kernel, by decide +kernel⟩, List.mem_of_getElem? (i := 501) (by decide +kernel), List.mem_of_getElem? (i := 696) (by decide +kernel), List.mem_of_getElem? (i := 697) (by decide +kernel)⟩
theorem lw_p38 : lw_okq (⟨"RoadTraceModel", "findSpots", "(I)V"⟩, 32) := ⟨⟨by decide +kernel, by decide +kernel⟩, List.mem_of_getElem? (i := 501) (by decide +kernel), List.mem_of_getElem? (i := 700) (by decide +kernel), List.mem_of_getElem? (i := 701) (by decide +kernel)⟩
theorem lw_p39 : lw_okq (⟨"RoadTraceModel", "offOf", "(III)I"⟩, 32) := ⟨⟨by decide +kernel, by decide +kernel⟩, List.mem_of_getElem? (i := 501) (by decide +kernel), List.mem_of_getElem? (i := 704) (by decide +kernel), List.mem_of_getElem? (i := 705) (by decide +kernel)⟩
theorem lw_p40 : lw_okq (⟨"RoadTraceModel", "lay", "(I)V"⟩, 32) := ⟨⟨by decide +kernel, by decide +kernel⟩, List.mem_of_getElem? (i := 501) (by decide +kernel), List.mem_of_getElem? (i := 716) (by decide +kernel), List.mem_of_getElem? (i := 717) (by decide +kernel)⟩
theorem lw_p41 : lw_okq (⟨"RoadTraceModel", "findRow", "(II)V"⟩, 32) := ⟨⟨by decide +kernel, by decide +kernel⟩, List.mem_of_getElem? (i := 501) (by decide +kernel), List.mem_of_getElem? (i := 720) (by decide +kernel), List.mem_of_getElem? (i := 721) (by decide +kernel)⟩
theorem lw_p42 : lw_okq (⟨"RoadTraceModel", "behind", "(IIIII)I"⟩, 32) := ⟨⟨by decide +kernel, by decide +kernel⟩, List.mem_of_getElem? (i := 501) (by decide +kernel), List.mem_of_getElem? (i := 724) (by decide +kernel), List.mem_of_getElem? (i := 725) (by decide +kernel)⟩
theorem lw_p43 : lw_okq (⟨"RoadTraceModel", "step", "(IIII)I"⟩, 32) := ⟨⟨by decide +kernel, by decide +kernel⟩, List.mem_of_getElem? (i := 501) (by decide +kernel), List.mem_of_getElem? (i := 728) (by decide +kernel), List.mem_of_getElem? (i := 729) (by decide +kernel)⟩
theorem lw_p44 : lw_okq (⟨"RoadTraceModel", "isSpot", "(II)Z"⟩, 32) := ⟨⟨by decide +kernel, by decide +kernel⟩, List.mem_of_getElem? (i := 501) (by decide +kernel), List.mem_of_getElem? (i := 740) (by decide +kernel), List.mem_of_getElem? (i := 741) (by decide +kernel)⟩
theorem lw_p45 : lw_okq (⟨"RoadTraceModel", "alike", "(IZ)I"⟩, 32) := ⟨⟨by decide +kernel, by decide +kernel⟩, List.mem_of_getElem? (i := 501) (by decide +kernel), List.mem_of_getElem? (i := 753) (by decide +kernel), List.mem_of_getElem? (i := 754) (by decide +kernel)⟩
def lw_privs_3 : List (MethodName × Nat) := [(⟨"RoadTraceModel", "goOn", "(I)Z"⟩, 32), (⟨"RoadTraceModel", "knotOf", "(I)I"⟩, 32), (⟨"RoadTraceModel", "reach", "(II)V"⟩, 32), (⟨"RoadTraceModel", "offer", "(III)V"⟩, 32), (⟨"RoadTraceModel", "isDrive", "(I)Z"⟩, 32), (⟨"RoadTraceModel", "isSight", "(II)Z"⟩, 32), (⟨"RoadTraceModel", "findSpots", "(I)V"⟩, 32), (⟨"RoadTraceModel", "offOf", "(III)I"⟩, 32), (⟨"RoadTraceModel", "lay", "(I)V"⟩, 32), (⟨"RoadTraceModel", "findRow", "(II)V"⟩, 32), (⟨"RoadTraceModel", "behind", "(IIIII)I"⟩, 32), (⟨"RoadTraceModel", "step", "(IIII)I"⟩, 32), (⟨"RoadTraceModel", "isSpot", "(II)Z"⟩, 32), (⟨"RoadTraceModel", "alike", "(IZ)I"⟩, 32)]
theorem lw_r3 : ∀ q ∈ lw_privs_3, lw_okq q := List.forall_mem_cons.mpr ⟨lw_p32, List.forall_mem_cons.mpr ⟨lw_p33, List.forall_mem_cons.mpr ⟨lw_p34, List.forall_mem_cons.mpr ⟨lw_p35, List.forall_mem_cons.mpr ⟨lw_p36, List.forall_mem_cons.mpr ⟨lw_p37, List.forall_mem_cons.mpr ⟨lw_p38, List.forall_mem_cons.mpr ⟨lw_p39, List.forall_mem_cons.mpr ⟨lw_p40, List.forall_mem_cons.mpr ⟨lw_p41, List.forall_mem_cons.mpr ⟨lw_p42, List.forall_mem_cons.mpr ⟨lw_p43, List.forall_mem_cons.mpr ⟨lw_p44, List.forall_mem_cons.mpr ⟨lw_p45, fun _ h => absurd h List.not_mem_nil⟩⟩⟩⟩⟩⟩⟩⟩⟩⟩⟩⟩⟩⟩
def lw_privs : List (MethodName × Nat) := lw_privs_1 ++ (lw_privs_2 ++ (lw_privs_3))
def lw_tbl : List Cond := k2_sels lw_privs ++ tables_1
theorem lw_privs_ok : ∀ q ∈ lw_privs, lw_okq q := by
  show ∀ q ∈ lw_privs_1 ++ (lw_privs_2 ++ (lw_privs_3)), lw_okq q
  exact List.forall_mem_append.mpr ⟨lw_r1, List.forall_mem_append.mpr ⟨lw_r2, lw_r3⟩⟩
-- ===== end of PART A; then your names; then what follows =====
end
section
-- printed by gen1.py: class names, field tables, method names, out of the claim's own tables
def RX0 : String := "RoadTrace$Drive"
def TX0 : u_T := fun k => match k with
  | 0 => ("RoadTrace$Drive", "sights", "I", false)
  | 1 => ("RoadTrace$Drive", "x", "[I", true)
  | 2 => ("RoadTrace$Drive", "y", "[I", true)
  | 3 => ("RoadTrace$Drive", "tick", "[I", true)
  | _ => ("RoadTrace$Drive", "bound", "[I", true)
def tyX0 : Nat → FieldType := fun k => match k with
  | 0 => .int
  | 1 => .array .int
  | 2 => .array .int
  | 3 => .array .int
  | _ => .array .int
theorem nmX0 : ∀ a, a < 5 → ∀ b, b < 5 → a ≠ b → (TX0 a).2.1 ≠ (TX0 b).2.1 := by decide +kernel
theorem tyX0_ok : ∀ k, k < 5 → parseFieldDescriptor (TX0 k).2.2.1 = some (tyX0 k) := by decide +kernel
theorem inX0 : ∀ w ∈ u_ws RX0 TX0 5, w ∈ lw_tbl := by decide +kernel
def RX1 : String := "RoadTrace$Laying"
def TX1 : u_T := fun k => match k with
  | 0 => ("RoadTrace$Laying", "fast", "I", false)
  | 1 => ("RoadTrace$Laying", "loss", "I", false)
  | 2 => ("RoadTrace$Laying", "spotCount", "[I", true)
  | 3 => ("RoadTrace$Laying", "spotPoint", "[I", true)
  | 4 => ("RoadTrace$Laying", "leastRow", "[I", true)
  | 5 => ("RoadTrace$Laying", "net", "LRoadTrace$Net;", true)
  | 6 => ("RoadTrace$Laying", "ways", "LRoadTrace$Ways;", true)
  | 7 => ("RoadTrace$Laying", "spotOff", "[I", true)
  | 8 => ("RoadTrace$Laying", "costTo", "[I", true)
  | 9 => ("RoadTrace$Laying", "slotAhead", "[I", true)
  | 10 => ("RoadTrace$Laying", "oneRow", "[I", true)
  | 11 => ("RoadTrace$Laying", "otherRow", "[I", true)
  | 12 => ("RoadTrace$Laying", "gathered", "LRoadTrace$Drive;", false)
  | 13 => ("RoadTrace$Laying", "isSettled", "Z", false)
  | 14 => ("RoadTrace$Laying", "leastCost", "I", false)
  | _ => ("RoadTrace$Laying", "sights", "I", false)
def tyX1 : Nat → FieldType := fun k => match k with
  | 0 => .int
  | 1 => .int
  | 2 => .array .int
  | 3 => .array .int
  | 4 => .array .int
  | 5 => .object "RoadTrace$Net"
  | 6 => .object "RoadTrace$Ways"
  | 7 => .array .int
  | 8 => .array .int
  | 9 => .array .int
  | 10 => .array .int
  | 11 => .array .int
  | 12 => .object "RoadTrace$Drive"
  | 13 => .boolean
  | 14 => .int
  | _ => .int
theorem nmX1 : ∀ a, a < 16 → ∀ b, b < 16 → a ≠ b → (TX1 a).2.1 ≠ (TX1 b).2.1 := by decide +kernel
theorem tyX1_ok : ∀ k, k < 16 → parseFieldDescriptor (TX1 k).2.2.1 = some (tyX1 k) := by decide +kernel
theorem inX1 : ∀ w ∈ u_ws RX1 TX1 16, w ∈ lw_tbl := by decide +kernel
def RX2 : String := "RoadTrace$Net"
def TX2 : u_T := fun k => match k with
  | 0 => ("RoadTrace$Net", "knots", "I", false)
  | 1 => ("RoadTrace$Net", "knotX", "[I", true)
  | 2 => ("RoadTrace$Net", "knotY", "[I", true)
  | 3 => ("RoadTrace$Net", "roads", "I", false)
  | 4 => ("RoadTrace$Net", "length", "[I", true)
  | 5 => ("RoadTrace$Net", "kind", "[I", true)
  | 6 => ("RoadTrace$Net", "fee", "[I", true)
  | 7 => ("RoadTrace$Net", "barredOnto", "[I", true)
  | 8 => ("RoadTrace$Net", "laneStart", "[I", true)
  | _ => ("RoadTrace$Net", "laneEnd", "[I", true)
def tyX2 : Nat → FieldType := fun k => match k with
  | 0 => .int
  | 1 => .array .int
  | 2 => .array .int
  | 3 => .int
  | 4 => .array .int
  | 5 => .array .int
  | 6 => .array .int
  | 7 => .array .int
  | 8 => .array .int
  | _ => .array .int
theorem nmX2 : ∀ a, a < 10 → ∀ b, b < 10 → a ≠ b → (TX2 a).2.1 ≠ (TX2 b).2.1 := by decide +kernel
theorem tyX2_ok : ∀ k, k < 10 → parseFieldDescriptor (TX2 k).2.2.1 = some (tyX2 k) := by decide +kernel
theorem inX2 : ∀ w ∈ u_ws RX2 TX2 10, w ∈ lw_tbl := by decide +kernel
def RX3 : String := "RoadTrace$Ways"
def TX3 : u_T := fun k => match k with
  | 0 => ("RoadTrace$Ways", "net", "LRoadTrace$Net;", true)
  | 1 => ("RoadTrace$Ways", "between", "[I", true)
  | 2 => ("RoadTrace$Ways", "isKnown", "[Z", true)
  | _ => ("RoadTrace$Ways", "isDone", "[Z", true)
def tyX3 : Nat → FieldType := fun k => match k with
  | 0 => .object "RoadTrace$Net"
  | 1 => .array .int
  | 2 => .array .boolean
  | _ => .array .boolean
theorem nmX3 : ∀ a, a < 4 → ∀ b, b < 4 → a ≠ b → (TX3 a).2.1 ≠ (TX3 b).2.1 := by decide +kernel
theorem tyX3_ok : ∀ k, k < 4 → parseFieldDescriptor (TX3 k).2.2.1 = some (tyX3 k) := by decide +kernel
theorem inX3 : ∀ w ∈ u_ws RX3 TX3 4, w ∈ lw_tbl := by decide +kernel
def RX4 : String := "RoadTrace"
def TX4 : u_T := fun k => match k with
  | 0 => ("RoadTrace", "net", "LRoadTrace$Net;", true)
  | 1 => ("RoadTrace", "ways", "LRoadTrace$Ways;", true)
  | 2 => ("RoadTrace", "laying", "LRoadTrace$Laying;", true)
  | 3 => ("RoadTrace", "drives", "[LRoadTrace$Drive;", true)
  | 4 => ("RoadTrace", "driveCount", "I", false)
  | 5 => ("RoadTrace", "told", "[I", true)
  | 6 => ("RoadTrace", "toldCount", "I", false)
  | _ => ("RoadTrace", "costs", "[I", true)
def tyX4 : Nat → FieldType := fun k => match k with
  | 0 => .object "RoadTrace$Net"
  | 1 => .object "RoadTrace$Ways"
  | 2 => .object "RoadTrace$Laying"
  | 3 => .array (.object "RoadTrace$Drive")
  | 4 => .int
  | 5 => .array .int
  | 6 => .int
  | _ => .array .int
theorem nmX4 : ∀ a, a < 8 → ∀ b, b < 8 → a ≠ b → (TX4 a).2.1 ≠ (TX4 b).2.1 := by decide +kernel
theorem tyX4_ok : ∀ k, k < 8 → parseFieldDescriptor (TX4 k).2.2.1 = some (tyX4 k) := by decide +kernel
theorem inX4 : ∀ w ∈ u_ws RX4 TX4 8, w ∈ lw_tbl := by decide +kernel
def RX5 : String := "RoadTraceModel"
def TX5 : u_T := fun k => match k with
  | 0 => ("RoadTraceModel", "knotX", "[I", true)
  | 1 => ("RoadTraceModel", "knotY", "[I", true)
  | 2 => ("RoadTraceModel", "knots", "I", false)
  | 3 => ("RoadTraceModel", "from", "[I", true)
  | 4 => ("RoadTraceModel", "to", "[I", true)
  | 5 => ("RoadTraceModel", "length", "[I", true)
  | 6 => ("RoadTraceModel", "kind", "[I", true)
  | 7 => ("RoadTraceModel", "fee", "[I", true)
  | 8 => ("RoadTraceModel", "roads", "I", false)
  | 9 => ("RoadTraceModel", "barred", "[Z", true)
  | 10 => ("RoadTraceModel", "sightX", "[I", true)
  | 11 => ("RoadTraceModel", "sightY", "[I", true)
  | 12 => ("RoadTraceModel", "tick", "[I", true)
  | 13 => ("RoadTraceModel", "bound", "[I", true)
  | 14 => ("RoadTraceModel", "many", "[I", true)
  | 15 => ("RoadTraceModel", "drives", "I", false)
  | 16 => ("RoadTraceModel", "fast", "I", false)
  | 17 => ("RoadTraceModel", "loss", "I", false)
  | 18 => ("RoadTraceModel", "list", "[I", true)
  | 19 => ("RoadTraceModel", "listMany", "I", false)
  | 20 => ("RoadTraceModel", "hasWays", "Z", false)
  | 21 => ("RoadTraceModel", "wayLength", "[I", true)
  | 22 => ("RoadTraceModel", "wayFees", "[I", true)
  | 23 => ("RoadTraceModel", "comeLength", "[I", true)
  | 24 => ("RoadTraceModel", "comeFees", "[I", true)
  | 25 => ("RoadTraceModel", "spots", "[I", true)
  | 26 => ("RoadTraceModel", "spotMany", "[I", true)
  | 27 => ("RoadTraceModel", "rest", "[I", true)
  | 28 => ("RoadTraceModel", "row", "[I", true)
  | 29 => ("RoadTraceModel", "said", "[I", true)
  | 30 => ("RoadTraceModel", "least", "I", false)
  | _ => ("RoadTraceModel", "drive", "I", false)
def tyX5 : Nat → FieldType := fun k => match k with
  | 0 => .array .int
  | 1 => .array .int
  | 2 => .int
  | 3 => .array .int
  | 4 => .array .int
  | 5 => .array .int
  | 6 => .array .int
  | 7 => .array .int
  | 8 => .int
  | 9 => .array .boolean
  | 10 => .array .int
  | 11 => .array .int
  | 12 => .array .int
  | 13 => .array .int
  | 14 => .array .int
  | 15 => .int
  | 16 => .int
  | 17 => .int
  | 18 => .array .int
  | 19 => .int
  | 20 => .boolean
  | 21 => .array .int
  | 22 => .array .int
  | 23 => .array .int
  | 24 => .array .int
  | 25 => .array .int
  | 26 => .array .int
  | 27 => .array .int
  | 28 => .array .int
  | 29 => .array .int
  | 30 => .int
  | _ => .int
theorem nmX5 : ∀ a, a < 32 → ∀ b, b < 32 → a ≠ b → (TX5 a).2.1 ≠ (TX5 b).2.1 := by decide +kernel
theorem tyX5_ok : ∀ k, k < 32 → parseFieldDescriptor (TX5 k).2.2.1 = some (tyX5 k) := by decide +kernel
theorem inX5 : ∀ w ∈ u_ws RX5 TX5 32, w ∈ lw_tbl := by decide +kernel
def RL : String := "RoadTraceLaw"
abbrev cX0_init : ByteArray := prog_2_method_1_code
def yX0_init : MethodName := ⟨RX0, "<init>", "()V"⟩
abbrev cX0_hasSight : ByteArray := prog_2_method_2_code
def yX0_hasSight : MethodName := ⟨RX0, "hasSight", "(I)Z"⟩
abbrev cX0_lastTick : ByteArray := prog_2_method_3_code
def yX0_lastTick : MethodName := ⟨RX0, "lastTick", "()I"⟩
abbrev cX0_addSight : ByteArray := prog_2_method_4_code
def yX0_addSight : MethodName := ⟨RX0, "addSight", "(IIII)I"⟩
abbrev cX1_init : ByteArray := prog_3_method_1_code
def yX1_init : MethodName := ⟨RX1, "<init>", "(LRoadTrace$Net;LRoadTrace$Ways;)V"⟩
abbrev cX1_forget : ByteArray := prog_3_method_2_code
def yX1_forget : MethodName := ⟨RX1, "forget", "()V"⟩
abbrev cX1_gather : ByteArray := prog_3_method_3_code
def yX1_gather : MethodName := ⟨RX1, "gather", "(LRoadTrace$Drive;)V"⟩
abbrev cX1_settle : ByteArray := prog_3_method_4_code
def yX1_settle : MethodName := ⟨RX1, "settle", "(LRoadTrace$Drive;)I"⟩
abbrev cX1_findSpots : ByteArray := prog_3_method_5_code
def yX1_findSpots : MethodName := ⟨RX1, "findSpots", "(IIII)V"⟩
abbrev cX1_addSpot : ByteArray := prog_3_method_6_code
def yX1_addSpot : MethodName := ⟨RX1, "addSpot", "(III)V"⟩
abbrev cX1_worstSlot : ByteArray := prog_3_method_7_code
def yX1_worstSlot : MethodName := ⟨RX1, "worstSlot", "(I)I"⟩
abbrev cX1_findRowTo : ByteArray := prog_3_method_8_code
def yX1_findRowTo : MethodName := ⟨RX1, "findRowTo", "(II[I)V"⟩
abbrev cX1_longestLeg : ByteArray := prog_3_method_9_code
def yX1_longestLeg : MethodName := ⟨RX1, "longestLeg", "(I)I"⟩
abbrev cX1_legLength : ByteArray := prog_3_method_10_code
def yX1_legLength : MethodName := ⟨RX1, "legLength", "(III)I"⟩
abbrev cX1_chooseLeast : ByteArray := prog_3_method_11_code
def yX1_chooseLeast : MethodName := ⟨RX1, "chooseLeast", "()V"⟩
abbrev cX1_costOfEnd : ByteArray := prog_3_method_12_code
def yX1_costOfEnd : MethodName := ⟨RX1, "costOfEnd", "(I)I"⟩
abbrev cX1_writeRow : ByteArray := prog_3_method_13_code
def yX1_writeRow : MethodName := ⟨RX1, "writeRow", "(I[I)V"⟩
abbrev cX1_isRowFirst : ByteArray := prog_3_method_14_code
def yX1_isRowFirst : MethodName := ⟨RX1, "isRowFirst", "(II)Z"⟩
abbrev cX1_countSame : ByteArray := prog_3_method_15_code
def yX1_countSame : MethodName := ⟨RX1, "countSame", "([I[I)I"⟩
abbrev cX1_sameInEnds : ByteArray := prog_3_method_16_code
def yX1_sameInEnds : MethodName := ⟨RX1, "sameInEnds", "(I)I"⟩
abbrev cX1_sameInEnd : ByteArray := prog_3_method_17_code
def yX1_sameInEnd : MethodName := ⟨RX1, "sameInEnd", "(I)I"⟩
abbrev cX1_fits : ByteArray := prog_3_method_18_code
def yX1_fits : MethodName := ⟨RX1, "fits", "([I)Z"⟩
abbrev cX1_findSlot : ByteArray := prog_3_method_19_code
def yX1_findSlot : MethodName := ⟨RX1, "findSlot", "(II)I"⟩
abbrev cX1_costOfRow : ByteArray := prog_3_method_20_code
def yX1_costOfRow : MethodName := ⟨RX1, "costOfRow", "([I)I"⟩
abbrev cX1_ticksBetween : ByteArray := prog_3_method_21_code
def yX1_ticksBetween : MethodName := ⟨RX1, "ticksBetween", "(II)I"⟩
abbrev cX1_feesOfLeastRow : ByteArray := prog_3_method_22_code
def yX1_feesOfLeastRow : MethodName := ⟨RX1, "feesOfLeastRow", "()I"⟩
abbrev cX1_speedBehind : ByteArray := prog_3_method_23_code
def yX1_speedBehind : MethodName := ⟨RX1, "speedBehind", "(I)I"⟩
abbrev cX1_nextNotLeft : ByteArray := prog_3_method_24_code
def yX1_nextNotLeft : MethodName := ⟨RX1, "nextNotLeft", "(I)I"⟩
abbrev cX2_init : ByteArray := prog_4_method_1_code
def yX2_init : MethodName := ⟨RX2, "<init>", "()V"⟩
abbrev cX2_hasKnot : ByteArray := prog_4_method_2_code
def yX2_hasKnot : MethodName := ⟨RX2, "hasKnot", "(I)Z"⟩
abbrev cX2_hasRoad : ByteArray := prog_4_method_3_code
def yX2_hasRoad : MethodName := ⟨RX2, "hasRoad", "(I)Z"⟩
abbrev cX2_hasPoint : ByteArray := prog_4_method_4_code
def yX2_hasPoint : MethodName := ⟨RX2, "hasPoint", "(I)Z"⟩
abbrev cX2_addKnot : ByteArray := prog_4_method_5_code
def yX2_addKnot : MethodName := ⟨RX2, "addKnot", "(II)I"⟩
abbrev cX2_addRoad : ByteArray := prog_4_method_6_code
def yX2_addRoad : MethodName := ⟨RX2, "addRoad", "(IIIII)I"⟩
abbrev cX2_setKind : ByteArray := prog_4_method_7_code
def yX2_setKind : MethodName := ⟨RX2, "setKind", "(II)V"⟩
abbrev cX2_haveCommonKnot : ByteArray := prog_4_method_8_code
def yX2_haveCommonKnot : MethodName := ⟨RX2, "haveCommonKnot", "(II)Z"⟩
abbrev cX2_isAtKnot : ByteArray := prog_4_method_9_code
def yX2_isAtKnot : MethodName := ⟨RX2, "isAtKnot", "(II)Z"⟩
abbrev cX2_isBarred : ByteArray := prog_4_method_10_code
def yX2_isBarred : MethodName := ⟨RX2, "isBarred", "(II)Z"⟩
abbrev cX2_setBarred : ByteArray := prog_4_method_11_code
def yX2_setBarred : MethodName := ⟨RX2, "setBarred", "(IIZ)V"⟩
abbrev cX2_offFrom : ByteArray := prog_4_method_12_code
def yX2_offFrom : MethodName := ⟨RX2, "offFrom", "(III)I"⟩
abbrev cX2_quartersAlong : ByteArray := prog_4_method_13_code
def yX2_quartersAlong : MethodName := ⟨RX2, "quartersAlong", "(III)I"⟩
abbrev cX2_weightOfPart : ByteArray := prog_4_method_14_code
def yX2_weightOfPart : MethodName := ⟨RX2, "weightOfPart", "(II)I"⟩
abbrev cX3_init : ByteArray := prog_5_method_1_code
def yX3_init : MethodName := ⟨RX3, "<init>", "(LRoadTrace$Net;)V"⟩
abbrev cX3_forget : ByteArray := prog_5_method_2_code
def yX3_forget : MethodName := ⟨RX3, "forget", "()V"⟩
abbrev cX3_least : ByteArray := prog_5_method_3_code
def yX3_least : MethodName := ⟨RX3, "least", "(II)I"⟩
abbrev cX3_alongOneRoad : ByteArray := prog_5_method_4_code
def yX3_alongOneRoad : MethodName := ⟨RX3, "alongOneRoad", "(II)I"⟩
abbrev cX3_throughTurns : ByteArray := prog_5_method_5_code
def yX3_throughTurns : MethodName := ⟨RX3, "throughTurns", "(III)I"⟩
abbrev cX3_know : ByteArray := prog_5_method_6_code
def yX3_know : MethodName := ⟨RX3, "know", "(I)V"⟩
abbrev cX3_nearestOpen : ByteArray := prog_5_method_7_code
def yX3_nearestOpen : MethodName := ⟨RX3, "nearestOpen", "(II)I"⟩
abbrev cX3_turnFrom : ByteArray := prog_5_method_8_code
def yX3_turnFrom : MethodName := ⟨RX3, "turnFrom", "(III)V"⟩
abbrev cX4_init : ByteArray := prog_1_method_1_code
def yX4_init : MethodName := ⟨RX4, "<init>", "()V"⟩
abbrev cX4_knot : ByteArray := prog_1_method_2_code
def yX4_knot : MethodName := ⟨RX4, "knot", "(II)I"⟩
abbrev cX4_road : ByteArray := prog_1_method_3_code
def yX4_road : MethodName := ⟨RX4, "road", "(IIII)I"⟩
abbrev cX4_bar : ByteArray := prog_1_method_4_code
def yX4_bar : MethodName := ⟨RX4, "bar", "(III)I"⟩
abbrev cX4_way : ByteArray := prog_1_method_5_code
def yX4_way : MethodName := ⟨RX4, "way", "(II)I"⟩
abbrev cX4_fees : ByteArray := prog_1_method_6_code
def yX4_fees : MethodName := ⟨RX4, "fees", "(II)I"⟩
abbrev cX4_drive : ByteArray := prog_1_method_7_code
def yX4_drive : MethodName := ⟨RX4, "drive", "()I"⟩
abbrev cX4_sight : ByteArray := prog_1_method_8_code
def yX4_sight : MethodName := ⟨RX4, "sight", "(IIII)I"⟩
abbrev cX4_drop : ByteArray := prog_1_method_9_code
def yX4_drop : MethodName := ⟨RX4, "drop", "(I)I"⟩
abbrev cX4_prices : ByteArray := prog_1_method_10_code
def yX4_prices : MethodName := ⟨RX4, "prices", "(II)I"⟩
abbrev cX4_spot : ByteArray := prog_1_method_11_code
def yX4_spot : MethodName := ⟨RX4, "spot", "(III)I"⟩
abbrev cX4_off : ByteArray := prog_1_method_12_code
def yX4_off : MethodName := ⟨RX4, "off", "(III)I"⟩
abbrev cX4_cost : ByteArray := prog_1_method_13_code
def yX4_cost : MethodName := ⟨RX4, "cost", "(I)I"⟩
abbrev cX4_laid : ByteArray := prog_1_method_14_code
def yX4_laid : MethodName := ⟨RX4, "laid", "(II)I"⟩
abbrev cX4_check : ByteArray := prog_1_method_15_code
def yX4_check : MethodName := ⟨RX4, "check", "(I)I"⟩
abbrev cX4_list : ByteArray := prog_1_method_16_code
def yX4_list : MethodName := ⟨RX4, "list", "(I)I"⟩
abbrev cX4_sure : ByteArray := prog_1_method_17_code
def yX4_sure : MethodName := ⟨RX4, "sure", "(II)I"⟩
abbrev cX4_toll : ByteArray := prog_1_method_18_code
def yX4_toll : MethodName := ⟨RX4, "toll", "(I)I"⟩
abbrev cX4_speed : ByteArray := prog_1_method_19_code
def yX4_speed : MethodName := ⟨RX4, "speed", "(II)I"⟩
abbrev cX4_against : ByteArray := prog_1_method_20_code
def yX4_against : MethodName := ⟨RX4, "against", "(I)I"⟩
abbrev cX4_count : ByteArray := prog_1_method_21_code
def yX4_count : MethodName := ⟨RX4, "count", "(I)I"⟩
abbrev cX4_isWithin : ByteArray := prog_1_method_22_code
def yX4_isWithin : MethodName := ⟨RX4, "isWithin", "(III)Z"⟩
abbrev cX4_isFeeOfKind : ByteArray := prog_1_method_23_code
def yX4_isFeeOfKind : MethodName := ⟨RX4, "isFeeOfKind", "(II)Z"⟩
abbrev cX4_findDrive : ByteArray := prog_1_method_24_code
def yX4_findDrive : MethodName := ⟨RX4, "findDrive", "(I)LRoadTrace$Drive;"⟩
abbrev cX4_countSights : ByteArray := prog_1_method_25_code
def yX4_countSights : MethodName := ⟨RX4, "countSights", "()I"⟩
abbrev cX4_changeKind : ByteArray := prog_1_method_26_code
def yX4_changeKind : MethodName := ⟨RX4, "changeKind", "(II)V"⟩
abbrev cX4_forgetWays : ByteArray := prog_1_method_27_code
def yX4_forgetWays : MethodName := ⟨RX4, "forgetWays", "()V"⟩
abbrev cX5_init : ByteArray := prog_7_method_1_code
def yX5_init : MethodName := ⟨RX5, "<init>", "()V"⟩
abbrev cX5_within : ByteArray := prog_7_method_2_code
def yX5_within : MethodName := ⟨RX5, "within", "(III)Z"⟩
abbrev cX5_knot : ByteArray := prog_7_method_3_code
def yX5_knot : MethodName := ⟨RX5, "knot", "(II)I"⟩
abbrev cX5_isKnot : ByteArray := prog_7_method_4_code
def yX5_isKnot : MethodName := ⟨RX5, "isKnot", "(I)Z"⟩
abbrev cX5_isRoad : ByteArray := prog_7_method_5_code
def yX5_isRoad : MethodName := ⟨RX5, "isRoad", "(I)Z"⟩
abbrev cX5_isPoint : ByteArray := prog_7_method_6_code
def yX5_isPoint : MethodName := ⟨RX5, "isPoint", "(I)Z"⟩
abbrev cX5_road : ByteArray := prog_7_method_7_code
def yX5_road : MethodName := ⟨RX5, "road", "(IIII)I"⟩
abbrev cX5_bar : ByteArray := prog_7_method_8_code
def yX5_bar : MethodName := ⟨RX5, "bar", "(III)I"⟩
abbrev cX5_knotOf : ByteArray := prog_7_method_9_code
def yX5_knotOf : MethodName := ⟨RX5, "knotOf", "(I)I"⟩
abbrev cX5_come : ByteArray := prog_7_method_10_code
def yX5_come : MethodName := ⟨RX5, "come", "(III)Z"⟩
abbrev cX5_feeOf : ByteArray := prog_7_method_11_code
def yX5_feeOf : MethodName := ⟨RX5, "feeOf", "(II)I"⟩
abbrev cX5_comeFrom : ByteArray := prog_7_method_12_code
def yX5_comeFrom : MethodName := ⟨RX5, "comeFrom", "(I)V"⟩
abbrev cX5_goOn : ByteArray := prog_7_method_13_code
def yX5_goOn : MethodName := ⟨RX5, "goOn", "(I)Z"⟩
abbrev cX5_offer : ByteArray := prog_7_method_14_code
def yX5_offer : MethodName := ⟨RX5, "offer", "(III)V"⟩
abbrev cX5_reach : ByteArray := prog_7_method_15_code
def yX5_reach : MethodName := ⟨RX5, "reach", "(II)V"⟩
abbrev cX5_findWays : ByteArray := prog_7_method_16_code
def yX5_findWays : MethodName := ⟨RX5, "findWays", "()V"⟩
abbrev cX5_way : ByteArray := prog_7_method_17_code
def yX5_way : MethodName := ⟨RX5, "way", "(II)I"⟩
abbrev cX5_fees : ByteArray := prog_7_method_18_code
def yX5_fees : MethodName := ⟨RX5, "fees", "(II)I"⟩
abbrev cX5_isDrive : ByteArray := prog_7_method_19_code
def yX5_isDrive : MethodName := ⟨RX5, "isDrive", "(I)Z"⟩
abbrev cX5_isSight : ByteArray := prog_7_method_20_code
def yX5_isSight : MethodName := ⟨RX5, "isSight", "(II)Z"⟩
abbrev cX5_drive : ByteArray := prog_7_method_21_code
def yX5_drive : MethodName := ⟨RX5, "drive", "()I"⟩
abbrev cX5_sight : ByteArray := prog_7_method_22_code
def yX5_sight : MethodName := ⟨RX5, "sight", "(IIII)I"⟩
abbrev cX5_drop : ByteArray := prog_7_method_23_code
def yX5_drop : MethodName := ⟨RX5, "drop", "(I)I"⟩
abbrev cX5_prices : ByteArray := prog_7_method_24_code
def yX5_prices : MethodName := ⟨RX5, "prices", "(II)I"⟩
abbrev cX5_offOf : ByteArray := prog_7_method_25_code
def yX5_offOf : MethodName := ⟨RX5, "offOf", "(III)I"⟩
abbrev cX5_findSpots : ByteArray := prog_7_method_26_code
def yX5_findSpots : MethodName := ⟨RX5, "findSpots", "(I)V"⟩
abbrev cX5_spot : ByteArray := prog_7_method_27_code
def yX5_spot : MethodName := ⟨RX5, "spot", "(III)I"⟩
abbrev cX5_off : ByteArray := prog_7_method_28_code
def yX5_off : MethodName := ⟨RX5, "off", "(III)I"⟩
abbrev cX5_step : ByteArray := prog_7_method_29_code
def yX5_step : MethodName := ⟨RX5, "step", "(IIII)I"⟩
abbrev cX5_behind : ByteArray := prog_7_method_30_code
def yX5_behind : MethodName := ⟨RX5, "behind", "(IIIII)I"⟩
abbrev cX5_findRow : ByteArray := prog_7_method_31_code
def yX5_findRow : MethodName := ⟨RX5, "findRow", "(II)V"⟩
abbrev cX5_lay : ByteArray := prog_7_method_32_code
def yX5_lay : MethodName := ⟨RX5, "lay", "(I)V"⟩
abbrev cX5_cost : ByteArray := prog_7_method_33_code
def yX5_cost : MethodName := ⟨RX5, "cost", "(I)I"⟩
abbrev cX5_laid : ByteArray := prog_7_method_34_code
def yX5_laid : MethodName := ⟨RX5, "laid", "(II)I"⟩
abbrev cX5_isSpot : ByteArray := prog_7_method_35_code
def yX5_isSpot : MethodName := ⟨RX5, "isSpot", "(II)Z"⟩
abbrev cX5_check : ByteArray := prog_7_method_36_code
def yX5_check : MethodName := ⟨RX5, "check", "(I)I"⟩
abbrev cX5_list : ByteArray := prog_7_method_37_code
def yX5_list : MethodName := ⟨RX5, "list", "(I)I"⟩
abbrev cX5_alike : ByteArray := prog_7_method_38_code
def yX5_alike : MethodName := ⟨RX5, "alike", "(IZ)I"⟩
abbrev cX5_sure : ByteArray := prog_7_method_39_code
def yX5_sure : MethodName := ⟨RX5, "sure", "(II)I"⟩
abbrev cX5_toll : ByteArray := prog_7_method_40_code
def yX5_toll : MethodName := ⟨RX5, "toll", "(I)I"⟩
abbrev cX5_speed : ByteArray := prog_7_method_41_code
def yX5_speed : MethodName := ⟨RX5, "speed", "(II)I"⟩
abbrev cX5_against : ByteArray := prog_7_method_42_code
def yX5_against : MethodName := ⟨RX5, "against", "(I)I"⟩
abbrev cX5_count : ByteArray := prog_7_method_43_code
def yX5_count : MethodName := ⟨RX5, "count", "(I)I"⟩
abbrev cL_law : ByteArray := code
def yL_law : MethodName := ⟨RL, "law", "([I)Z"⟩
abbrev vwCl : List vw_C := [(RX0, TX0, 5), (RX1, TX1, 16), (RX2, TX2, 10), (RX3, TX3, 4), (RX4, TX4, 8), (RX5, TX5, 32)]
end
section
theorem dX0_init_0 : decode cX0_init 0 = .ok (.aload_n 0, 1) := by decide +kernel
theorem dX0_init_1 : decode cX0_init 1 = .ok (.invokespecial 3, 3) := by decide +kernel
theorem dX0_init_4 : decode cX0_init 4 = .ok (.aload_n 0, 1) := by decide +kernel
theorem dX0_init_5 : decode cX0_init 5 = .ok (.bipush 20, 2) := by decide +kernel
theorem dX0_init_7 : decode cX0_init 7 = .ok (.newarray .int, 2) := by decide +kernel
theorem dX0_init_9 : decode cX0_init 9 = .ok (.putfield 9, 3) := by decide +kernel
theorem dX0_init_12 : decode cX0_init 12 = .ok (.aload_n 0, 1) := by decide +kernel
theorem dX0_init_13 : decode cX0_init 13 = .ok (.bipush 20, 2) := by decide +kernel
theorem dX0_init_15 : decode cX0_init 15 = .ok (.newarray .int, 2) := by decide +kernel
theorem dX0_init_17 : decode cX0_init 17 = .ok (.putfield 15, 3) := by decide +kernel
theorem dX0_init_20 : decode cX0_init 20 = .ok (.aload_n 0, 1) := by decide +kernel
theorem dX0_init_21 : decode cX0_init 21 = .ok (.bipush 20, 2) := by decide +kernel
theorem dX0_init_23 : decode cX0_init 23 = .ok (.newarray .int, 2) := by decide +kernel
theorem dX0_init_25 : decode cX0_init 25 = .ok (.putfield 18, 3) := by decide +kernel
theorem dX0_init_28 : decode cX0_init 28 = .ok (.aload_n 0, 1) := by decide +kernel
theorem dX0_init_29 : decode cX0_init 29 = .ok (.bipush 20, 2) := by decide +kernel
theorem dX0_init_31 : decode cX0_init 31 = .ok (.newarray .int, 2) := by decide +kernel
theorem dX0_init_33 : decode cX0_init 33 = .ok (.putfield 21, 3) := by decide +kernel
theorem dX0_init_36 : decode cX0_init 36 = .ok (.return_, 1) := by decide +kernel
theorem dX0_hasSight_0 : decode cX0_hasSight 0 = .ok (.iload_n 1, 1) := by decide +kernel
theorem dX0_hasSight_1 : decode cX0_hasSight 1 = .ok (.ifCond .lt 15, 3) := by decide +kernel
theorem dX0_hasSight_4 : decode cX0_hasSight 4 = .ok (.iload_n 1, 1) := by decide +kernel
theorem dX0_hasSight_5 : decode cX0_hasSight 5 = .ok (.aload_n 0, 1) := by decide +kernel
theorem dX0_hasSight_6 : decode cX0_hasSight 6 = .ok (.getfield 24, 3) := by decide +kernel
theorem dX0_hasSight_9 : decode cX0_hasSight 9 = .ok (.if_icmp .ge 7, 3) := by decide +kernel
theorem dX0_hasSight_12 : decode cX0_hasSight 12 = .ok (.iconst 1, 1) := by decide +kernel
theorem dX0_hasSight_13 : decode cX0_hasSight 13 = .ok (.goto 4, 3) := by decide +kernel
theorem dX0_hasSight_16 : decode cX0_hasSight 16 = .ok (.iconst 0, 1) := by decide +kernel
theorem dX0_hasSight_17 : decode cX0_hasSight 17 = .ok (.ireturn, 1) := by decide +kernel
theorem dX0_lastTick_0 : decode cX0_lastTick 0 = .ok (.aload_n 0, 1) := by decide +kernel
theorem dX0_lastTick_1 : decode cX0_lastTick 1 = .ok (.getfield 24, 3) := by decide +kernel
theorem dX0_lastTick_4 : decode cX0_lastTick 4 = .ok (.ifCond .le 17, 3) := by decide +kernel
theorem dX0_lastTick_7 : decode cX0_lastTick 7 = .ok (.aload_n 0, 1) := by decide +kernel
theorem dX0_lastTick_8 : decode cX0_lastTick 8 = .ok (.getfield 18, 3) := by decide +kernel
theorem dX0_lastTick_11 : decode cX0_lastTick 11 = .ok (.aload_n 0, 1) := by decide +kernel
theorem dX0_lastTick_12 : decode cX0_lastTick 12 = .ok (.getfield 24, 3) := by decide +kernel
theorem dX0_lastTick_15 : decode cX0_lastTick 15 = .ok (.iconst 1, 1) := by decide +kernel
theorem dX0_lastTick_16 : decode cX0_lastTick 16 = .ok (.isub, 1) := by decide +kernel
theorem dX0_lastTick_17 : decode cX0_lastTick 17 = .ok (.iaload, 1) := by decide +kernel
theorem dX0_lastTick_18 : decode cX0_lastTick 18 = .ok (.goto 4, 3) := by decide +kernel
theorem dX0_lastTick_21 : decode cX0_lastTick 21 = .ok (.iconst (-1), 1) := by decide +kernel
theorem dX0_lastTick_22 : decode cX0_lastTick 22 = .ok (.ireturn, 1) := by decide +kernel
theorem dX0_addSight_0 : decode cX0_addSight 0 = .ok (.aload_n 0, 1) := by decide +kernel
theorem dX0_addSight_1 : decode cX0_addSight 1 = .ok (.getfield 24, 3) := by decide +kernel
theorem dX0_addSight_4 : decode cX0_addSight 4 = .ok (.bipush 20, 2) := by decide +kernel
theorem dX0_addSight_6 : decode cX0_addSight 6 = .ok (.if_icmp .lt 6, 3) := by decide +kernel
theorem dX0_addSight_9 : decode cX0_addSight 9 = .ok (.bipush (-2), 2) := by decide +kernel
theorem dX0_addSight_11 : decode cX0_addSight 11 = .ok (.ireturn, 1) := by decide +kernel
theorem dX0_addSight_12 : decode cX0_addSight 12 = .ok (.aload_n 0, 1) := by decide +kernel
theorem dX0_addSight_13 : decode cX0_addSight 13 = .ok (.getfield 9, 3) := by decide +kernel
theorem dX0_addSight_16 : decode cX0_addSight 16 = .ok (.aload_n 0, 1) := by decide +kernel
theorem dX0_addSight_17 : decode cX0_addSight 17 = .ok (.getfield 24, 3) := by decide +kernel
theorem dX0_addSight_20 : decode cX0_addSight 20 = .ok (.iload_n 1, 1) := by decide +kernel
theorem dX0_addSight_21 : decode cX0_addSight 21 = .ok (.iastore, 1) := by decide +kernel
theorem dX0_addSight_22 : decode cX0_addSight 22 = .ok (.aload_n 0, 1) := by decide +kernel
theorem dX0_addSight_23 : decode cX0_addSight 23 = .ok (.getfield 15, 3) := by decide +kernel
theorem dX0_addSight_26 : decode cX0_addSight 26 = .ok (.aload_n 0, 1) := by decide +kernel
theorem dX0_addSight_27 : decode cX0_addSight 27 = .ok (.getfield 24, 3) := by decide +kernel
theorem dX0_addSight_30 : decode cX0_addSight 30 = .ok (.iload_n 2, 1) := by decide +kernel
theorem dX0_addSight_31 : decode cX0_addSight 31 = .ok (.iastore, 1) := by decide +kernel
theorem dX0_addSight_32 : decode cX0_addSight 32 = .ok (.aload_n 0, 1) := by decide +kernel
theorem dX0_addSight_33 : decode cX0_addSight 33 = .ok (.getfield 18, 3) := by decide +kernel
theorem dX0_addSight_36 : decode cX0_addSight 36 = .ok (.aload_n 0, 1) := by decide +kernel
theorem dX0_addSight_37 : decode cX0_addSight 37 = .ok (.getfield 24, 3) := by decide +kernel
theorem dX0_addSight_40 : decode cX0_addSight 40 = .ok (.iload_n 3, 1) := by decide +kernel
theorem dX0_addSight_41 : decode cX0_addSight 41 = .ok (.iastore, 1) := by decide +kernel
theorem dX0_addSight_42 : decode cX0_addSight 42 = .ok (.aload_n 0, 1) := by decide +kernel
theorem dX0_addSight_43 : decode cX0_addSight 43 = .ok (.getfield 21, 3) := by decide +kernel
theorem dX0_addSight_46 : decode cX0_addSight 46 = .ok (.aload_n 0, 1) := by decide +kernel
theorem dX0_addSight_47 : decode cX0_addSight 47 = .ok (.getfield 24, 3) := by decide +kernel
theorem dX0_addSight_50 : decode cX0_addSight 50 = .ok (.iload 4, 2) := by decide +kernel
theorem dX0_addSight_52 : decode cX0_addSight 52 = .ok (.iastore, 1) := by decide +kernel
theorem dX0_addSight_53 : decode cX0_addSight 53 = .ok (.aload_n 0, 1) := by decide +kernel
theorem dX0_addSight_54 : decode cX0_addSight 54 = .ok (.dup, 1) := by decide +kernel
theorem dX0_addSight_55 : decode cX0_addSight 55 = .ok (.getfield 24, 3) := by decide +kernel
theorem dX0_addSight_58 : decode cX0_addSight 58 = .ok (.iconst 1, 1) := by decide +kernel
theorem dX0_addSight_59 : decode cX0_addSight 59 = .ok (.iadd, 1) := by decide +kernel
theorem dX0_addSight_60 : decode cX0_addSight 60 = .ok (.putfield 24, 3) := by decide +kernel
theorem dX0_addSight_63 : decode cX0_addSight 63 = .ok (.aload_n 0, 1) := by decide +kernel
theorem dX0_addSight_64 : decode cX0_addSight 64 = .ok (.getfield 24, 3) := by decide +kernel
theorem dX0_addSight_67 : decode cX0_addSight 67 = .ok (.iconst 1, 1) := by decide +kernel
theorem dX0_addSight_68 : decode cX0_addSight 68 = .ok (.isub, 1) := by decide +kernel
theorem dX0_addSight_69 : decode cX0_addSight 69 = .ok (.ireturn, 1) := by decide +kernel
theorem dX2_init_0 : decode cX2_init 0 = .ok (.aload_n 0, 1) := by decide +kernel
theorem dX2_init_1 : decode cX2_init 1 = .ok (.invokespecial 3, 3) := by decide +kernel
theorem dX2_init_4 : decode cX2_init 4 = .ok (.aload_n 0, 1) := by decide +kernel
theorem dX2_init_5 : decode cX2_init 5 = .ok (.bipush 16, 2) := by decide +kernel
theorem dX2_init_7 : decode cX2_init 7 = .ok (.newarray .int, 2) := by decide +kernel
theorem dX2_init_9 : decode cX2_init 9 = .ok (.putfield 9, 3) := by decide +kernel
theorem dX2_init_12 : decode cX2_init 12 = .ok (.aload_n 0, 1) := by decide +kernel
theorem dX2_init_13 : decode cX2_init 13 = .ok (.bipush 16, 2) := by decide +kernel
theorem dX2_init_15 : decode cX2_init 15 = .ok (.newarray .int, 2) := by decide +kernel
theorem dX2_init_17 : decode cX2_init 17 = .ok (.putfield 15, 3) := by decide +kernel
theorem dX2_init_20 : decode cX2_init 20 = .ok (.aload_n 0, 1) := by decide +kernel
theorem dX2_init_21 : decode cX2_init 21 = .ok (.bipush 30, 2) := by decide +kernel
theorem dX2_init_23 : decode cX2_init 23 = .ok (.newarray .int, 2) := by decide +kernel
theorem dX2_init_25 : decode cX2_init 25 = .ok (.putfield 18, 3) := by decide +kernel
theorem dX2_init_28 : decode cX2_init 28 = .ok (.aload_n 0, 1) := by decide +kernel
theorem dX2_init_29 : decode cX2_init 29 = .ok (.bipush 30, 2) := by decide +kernel
theorem dX2_init_31 : decode cX2_init 31 = .ok (.newarray .int, 2) := by decide +kernel
theorem dX2_init_33 : decode cX2_init 33 = .ok (.putfield 21, 3) := by decide +kernel
theorem dX2_init_36 : decode cX2_init 36 = .ok (.aload_n 0, 1) := by decide +kernel
theorem dX2_init_37 : decode cX2_init 37 = .ok (.bipush 30, 2) := by decide +kernel
theorem dX2_init_39 : decode cX2_init 39 = .ok (.newarray .int, 2) := by decide +kernel
theorem dX2_init_41 : decode cX2_init 41 = .ok (.putfield 24, 3) := by decide +kernel
theorem dX2_init_44 : decode cX2_init 44 = .ok (.aload_n 0, 1) := by decide +kernel
theorem dX2_init_45 : decode cX2_init 45 = .ok (.bipush 30, 2) := by decide +kernel
theorem dX2_init_47 : decode cX2_init 47 = .ok (.newarray .int, 2) := by decide +kernel
theorem dX2_init_49 : decode cX2_init 49 = .ok (.putfield 27, 3) := by decide +kernel
theorem dX2_init_52 : decode cX2_init 52 = .ok (.aload_n 0, 1) := by decide +kernel
theorem dX2_init_53 : decode cX2_init 53 = .ok (.bipush 60, 2) := by decide +kernel
theorem dX2_init_55 : decode cX2_init 55 = .ok (.newarray .int, 2) := by decide +kernel
theorem dX2_init_57 : decode cX2_init 57 = .ok (.putfield 30, 3) := by decide +kernel
theorem dX2_init_60 : decode cX2_init 60 = .ok (.aload_n 0, 1) := by decide +kernel
theorem dX2_init_61 : decode cX2_init 61 = .ok (.bipush 60, 2) := by decide +kernel
theorem dX2_init_63 : decode cX2_init 63 = .ok (.newarray .int, 2) := by decide +kernel
theorem dX2_init_65 : decode cX2_init 65 = .ok (.putfield 33, 3) := by decide +kernel
theorem dX2_init_68 : decode cX2_init 68 = .ok (.return_, 1) := by decide +kernel
theorem dX2_hasKnot_0 : decode cX2_hasKnot 0 = .ok (.iload_n 1, 1) := by decide +kernel
theorem dX2_hasKnot_1 : decode cX2_hasKnot 1 = .ok (.ifCond .lt 15, 3) := by decide +kernel
theorem dX2_hasKnot_4 : decode cX2_hasKnot 4 = .ok (.iload_n 1, 1) := by decide +kernel
theorem dX2_hasKnot_5 : decode cX2_hasKnot 5 = .ok (.aload_n 0, 1) := by decide +kernel
theorem dX2_hasKnot_6 : decode cX2_hasKnot 6 = .ok (.getfield 36, 3) := by decide +kernel
theorem dX2_hasKnot_9 : decode cX2_hasKnot 9 = .ok (.if_icmp .ge 7, 3) := by decide +kernel
theorem dX2_hasKnot_12 : decode cX2_hasKnot 12 = .ok (.iconst 1, 1) := by decide +kernel
theorem dX2_hasKnot_13 : decode cX2_hasKnot 13 = .ok (.goto 4, 3) := by decide +kernel
theorem dX2_hasKnot_16 : decode cX2_hasKnot 16 = .ok (.iconst 0, 1) := by decide +kernel
theorem dX2_hasKnot_17 : decode cX2_hasKnot 17 = .ok (.ireturn, 1) := by decide +kernel
theorem dX2_hasRoad_0 : decode cX2_hasRoad 0 = .ok (.iload_n 1, 1) := by decide +kernel
theorem dX2_hasRoad_1 : decode cX2_hasRoad 1 = .ok (.ifCond .lt 15, 3) := by decide +kernel
theorem dX2_hasRoad_4 : decode cX2_hasRoad 4 = .ok (.iload_n 1, 1) := by decide +kernel
theorem dX2_hasRoad_5 : decode cX2_hasRoad 5 = .ok (.aload_n 0, 1) := by decide +kernel
theorem dX2_hasRoad_6 : decode cX2_hasRoad 6 = .ok (.getfield 40, 3) := by decide +kernel
theorem dX2_hasRoad_9 : decode cX2_hasRoad 9 = .ok (.if_icmp .ge 7, 3) := by decide +kernel
theorem dX2_hasRoad_12 : decode cX2_hasRoad 12 = .ok (.iconst 1, 1) := by decide +kernel
theorem dX2_hasRoad_13 : decode cX2_hasRoad 13 = .ok (.goto 4, 3) := by decide +kernel
theorem dX2_hasRoad_16 : decode cX2_hasRoad 16 = .ok (.iconst 0, 1) := by decide +kernel
theorem dX2_hasRoad_17 : decode cX2_hasRoad 17 = .ok (.ireturn, 1) := by decide +kernel
theorem dX2_hasPoint_0 : decode cX2_hasPoint 0 = .ok (.iload_n 1, 1) := by decide +kernel
theorem dX2_hasPoint_1 : decode cX2_hasPoint 1 = .ok (.ifCond .lt 17, 3) := by decide +kernel
theorem dX2_hasPoint_4 : decode cX2_hasPoint 4 = .ok (.iload_n 1, 1) := by decide +kernel
theorem dX2_hasPoint_5 : decode cX2_hasPoint 5 = .ok (.iconst 5, 1) := by decide +kernel
theorem dX2_hasPoint_6 : decode cX2_hasPoint 6 = .ok (.aload_n 0, 1) := by decide +kernel
theorem dX2_hasPoint_7 : decode cX2_hasPoint 7 = .ok (.getfield 40, 3) := by decide +kernel
theorem dX2_hasPoint_10 : decode cX2_hasPoint 10 = .ok (.imul, 1) := by decide +kernel
theorem dX2_hasPoint_11 : decode cX2_hasPoint 11 = .ok (.if_icmp .ge 7, 3) := by decide +kernel
theorem dX2_hasPoint_14 : decode cX2_hasPoint 14 = .ok (.iconst 1, 1) := by decide +kernel
theorem dX2_hasPoint_15 : decode cX2_hasPoint 15 = .ok (.goto 4, 3) := by decide +kernel
theorem dX2_hasPoint_18 : decode cX2_hasPoint 18 = .ok (.iconst 0, 1) := by decide +kernel
theorem dX2_hasPoint_19 : decode cX2_hasPoint 19 = .ok (.ireturn, 1) := by decide +kernel
theorem dX2_addKnot_0 : decode cX2_addKnot 0 = .ok (.aload_n 0, 1) := by decide +kernel
theorem dX2_addKnot_1 : decode cX2_addKnot 1 = .ok (.getfield 36, 3) := by decide +kernel
theorem dX2_addKnot_4 : decode cX2_addKnot 4 = .ok (.bipush 16, 2) := by decide +kernel
theorem dX2_addKnot_6 : decode cX2_addKnot 6 = .ok (.if_icmp .lt 6, 3) := by decide +kernel
theorem dX2_addKnot_9 : decode cX2_addKnot 9 = .ok (.bipush (-2), 2) := by decide +kernel
theorem dX2_addKnot_11 : decode cX2_addKnot 11 = .ok (.ireturn, 1) := by decide +kernel
theorem dX2_addKnot_12 : decode cX2_addKnot 12 = .ok (.aload_n 0, 1) := by decide +kernel
theorem dX2_addKnot_13 : decode cX2_addKnot 13 = .ok (.getfield 9, 3) := by decide +kernel
theorem dX2_addKnot_16 : decode cX2_addKnot 16 = .ok (.aload_n 0, 1) := by decide +kernel
theorem dX2_addKnot_17 : decode cX2_addKnot 17 = .ok (.getfield 36, 3) := by decide +kernel
theorem dX2_addKnot_20 : decode cX2_addKnot 20 = .ok (.iload_n 1, 1) := by decide +kernel
theorem dX2_addKnot_21 : decode cX2_addKnot 21 = .ok (.iastore, 1) := by decide +kernel
theorem dX2_addKnot_22 : decode cX2_addKnot 22 = .ok (.aload_n 0, 1) := by decide +kernel
theorem dX2_addKnot_23 : decode cX2_addKnot 23 = .ok (.getfield 15, 3) := by decide +kernel
theorem dX2_addKnot_26 : decode cX2_addKnot 26 = .ok (.aload_n 0, 1) := by decide +kernel
theorem dX2_addKnot_27 : decode cX2_addKnot 27 = .ok (.getfield 36, 3) := by decide +kernel
theorem dX2_addKnot_30 : decode cX2_addKnot 30 = .ok (.iload_n 2, 1) := by decide +kernel
theorem dX2_addKnot_31 : decode cX2_addKnot 31 = .ok (.iastore, 1) := by decide +kernel
theorem dX2_addKnot_32 : decode cX2_addKnot 32 = .ok (.aload_n 0, 1) := by decide +kernel
theorem dX2_addKnot_33 : decode cX2_addKnot 33 = .ok (.dup, 1) := by decide +kernel
theorem dX2_addKnot_34 : decode cX2_addKnot 34 = .ok (.getfield 36, 3) := by decide +kernel
theorem dX2_addKnot_37 : decode cX2_addKnot 37 = .ok (.iconst 1, 1) := by decide +kernel
theorem dX2_addKnot_38 : decode cX2_addKnot 38 = .ok (.iadd, 1) := by decide +kernel
theorem dX2_addKnot_39 : decode cX2_addKnot 39 = .ok (.putfield 36, 3) := by decide +kernel
theorem dX2_addKnot_42 : decode cX2_addKnot 42 = .ok (.aload_n 0, 1) := by decide +kernel
theorem dX2_addKnot_43 : decode cX2_addKnot 43 = .ok (.getfield 36, 3) := by decide +kernel
theorem dX2_addKnot_46 : decode cX2_addKnot 46 = .ok (.iconst 1, 1) := by decide +kernel
theorem dX2_addKnot_47 : decode cX2_addKnot 47 = .ok (.isub, 1) := by decide +kernel
theorem dX2_addKnot_48 : decode cX2_addKnot 48 = .ok (.ireturn, 1) := by decide +kernel
theorem dX2_addRoad_0 : decode cX2_addRoad 0 = .ok (.aload_n 0, 1) := by decide +kernel
theorem dX2_addRoad_1 : decode cX2_addRoad 1 = .ok (.getfield 40, 3) := by decide +kernel
theorem dX2_addRoad_4 : decode cX2_addRoad 4 = .ok (.bipush 30, 2) := by decide +kernel
theorem dX2_addRoad_6 : decode cX2_addRoad 6 = .ok (.if_icmp .lt 6, 3) := by decide +kernel
theorem dX2_addRoad_9 : decode cX2_addRoad 9 = .ok (.bipush (-2), 2) := by decide +kernel
theorem dX2_addRoad_11 : decode cX2_addRoad 11 = .ok (.ireturn, 1) := by decide +kernel
theorem dX2_addRoad_12 : decode cX2_addRoad 12 = .ok (.aload_n 0, 1) := by decide +kernel
theorem dX2_addRoad_13 : decode cX2_addRoad 13 = .ok (.getfield 40, 3) := by decide +kernel
theorem dX2_addRoad_16 : decode cX2_addRoad 16 = .ok (.istore 6, 2) := by decide +kernel
theorem dX2_addRoad_18 : decode cX2_addRoad 18 = .ok (.aload_n 0, 1) := by decide +kernel
theorem dX2_addRoad_19 : decode cX2_addRoad 19 = .ok (.dup, 1) := by decide +kernel
theorem dX2_addRoad_20 : decode cX2_addRoad 20 = .ok (.getfield 40, 3) := by decide +kernel
theorem dX2_addRoad_23 : decode cX2_addRoad 23 = .ok (.iconst 1, 1) := by decide +kernel
theorem dX2_addRoad_24 : decode cX2_addRoad 24 = .ok (.iadd, 1) := by decide +kernel
theorem dX2_addRoad_25 : decode cX2_addRoad 25 = .ok (.putfield 40, 3) := by decide +kernel
theorem dX2_addRoad_28 : decode cX2_addRoad 28 = .ok (.aload_n 0, 1) := by decide +kernel
theorem dX2_addRoad_29 : decode cX2_addRoad 29 = .ok (.getfield 18, 3) := by decide +kernel
theorem dX2_addRoad_32 : decode cX2_addRoad 32 = .ok (.iload 6, 2) := by decide +kernel
theorem dX2_addRoad_34 : decode cX2_addRoad 34 = .ok (.iload_n 3, 1) := by decide +kernel
theorem dX2_addRoad_35 : decode cX2_addRoad 35 = .ok (.iastore, 1) := by decide +kernel
theorem dX2_addRoad_36 : decode cX2_addRoad 36 = .ok (.aload_n 0, 1) := by decide +kernel
theorem dX2_addRoad_37 : decode cX2_addRoad 37 = .ok (.getfield 24, 3) := by decide +kernel
theorem dX2_addRoad_40 : decode cX2_addRoad 40 = .ok (.iload 6, 2) := by decide +kernel
theorem dX2_addRoad_42 : decode cX2_addRoad 42 = .ok (.iload 5, 2) := by decide +kernel
theorem dX2_addRoad_44 : decode cX2_addRoad 44 = .ok (.iastore, 1) := by decide +kernel
theorem dX2_addRoad_45 : decode cX2_addRoad 45 = .ok (.aload_n 0, 1) := by decide +kernel
theorem dX2_addRoad_46 : decode cX2_addRoad 46 = .ok (.getfield 33, 3) := by decide +kernel
theorem dX2_addRoad_49 : decode cX2_addRoad 49 = .ok (.iconst 2, 1) := by decide +kernel
theorem dX2_addRoad_50 : decode cX2_addRoad 50 = .ok (.iload 6, 2) := by decide +kernel
theorem dX2_addRoad_52 : decode cX2_addRoad 52 = .ok (.imul, 1) := by decide +kernel
theorem dX2_addRoad_53 : decode cX2_addRoad 53 = .ok (.iload_n 1, 1) := by decide +kernel
theorem dX2_addRoad_54 : decode cX2_addRoad 54 = .ok (.iastore, 1) := by decide +kernel
theorem dX2_addRoad_55 : decode cX2_addRoad 55 = .ok (.aload_n 0, 1) := by decide +kernel
theorem dX2_addRoad_56 : decode cX2_addRoad 56 = .ok (.getfield 33, 3) := by decide +kernel
theorem dX2_addRoad_59 : decode cX2_addRoad 59 = .ok (.iconst 2, 1) := by decide +kernel
theorem dX2_addRoad_60 : decode cX2_addRoad 60 = .ok (.iload 6, 2) := by decide +kernel
theorem dX2_addRoad_62 : decode cX2_addRoad 62 = .ok (.imul, 1) := by decide +kernel
theorem dX2_addRoad_63 : decode cX2_addRoad 63 = .ok (.iconst 1, 1) := by decide +kernel
theorem dX2_addRoad_64 : decode cX2_addRoad 64 = .ok (.iadd, 1) := by decide +kernel
theorem dX2_addRoad_65 : decode cX2_addRoad 65 = .ok (.iload_n 2, 1) := by decide +kernel
theorem dX2_addRoad_66 : decode cX2_addRoad 66 = .ok (.iastore, 1) := by decide +kernel
theorem dX2_addRoad_67 : decode cX2_addRoad 67 = .ok (.aload_n 0, 1) := by decide +kernel
theorem dX2_addRoad_68 : decode cX2_addRoad 68 = .ok (.getfield 30, 3) := by decide +kernel
theorem dX2_addRoad_71 : decode cX2_addRoad 71 = .ok (.iconst 2, 1) := by decide +kernel
theorem dX2_addRoad_72 : decode cX2_addRoad 72 = .ok (.iload 6, 2) := by decide +kernel
theorem dX2_addRoad_74 : decode cX2_addRoad 74 = .ok (.imul, 1) := by decide +kernel
theorem dX2_addRoad_75 : decode cX2_addRoad 75 = .ok (.iconst 1, 1) := by decide +kernel
theorem dX2_addRoad_76 : decode cX2_addRoad 76 = .ok (.iadd, 1) := by decide +kernel
theorem dX2_addRoad_77 : decode cX2_addRoad 77 = .ok (.iload_n 1, 1) := by decide +kernel
theorem dX2_addRoad_78 : decode cX2_addRoad 78 = .ok (.iastore, 1) := by decide +kernel
theorem dX2_addRoad_79 : decode cX2_addRoad 79 = .ok (.aload_n 0, 1) := by decide +kernel
theorem dX2_addRoad_80 : decode cX2_addRoad 80 = .ok (.iload 6, 2) := by decide +kernel
theorem dX2_addRoad_82 : decode cX2_addRoad 82 = .ok (.iload 4, 2) := by decide +kernel
theorem dX2_addRoad_84 : decode cX2_addRoad 84 = .ok (.invokevirtual 43, 3) := by decide +kernel
theorem dX2_addRoad_87 : decode cX2_addRoad 87 = .ok (.iload 6, 2) := by decide +kernel
theorem dX2_addRoad_89 : decode cX2_addRoad 89 = .ok (.ireturn, 1) := by decide +kernel
theorem dX2_setKind_0 : decode cX2_setKind 0 = .ok (.aload_n 0, 1) := by decide +kernel
theorem dX2_setKind_1 : decode cX2_setKind 1 = .ok (.getfield 21, 3) := by decide +kernel
theorem dX2_setKind_4 : decode cX2_setKind 4 = .ok (.iload_n 1, 1) := by decide +kernel
theorem dX2_setKind_5 : decode cX2_setKind 5 = .ok (.iload_n 2, 1) := by decide +kernel
theorem dX2_setKind_6 : decode cX2_setKind 6 = .ok (.iastore, 1) := by decide +kernel
theorem dX2_setKind_7 : decode cX2_setKind 7 = .ok (.aload_n 0, 1) := by decide +kernel
theorem dX2_setKind_8 : decode cX2_setKind 8 = .ok (.getfield 30, 3) := by decide +kernel
theorem dX2_setKind_11 : decode cX2_setKind 11 = .ok (.iconst 2, 1) := by decide +kernel
theorem dX2_setKind_12 : decode cX2_setKind 12 = .ok (.iload_n 1, 1) := by decide +kernel
theorem dX2_setKind_13 : decode cX2_setKind 13 = .ok (.imul, 1) := by decide +kernel
theorem dX2_setKind_14 : decode cX2_setKind 14 = .ok (.iload_n 2, 1) := by decide +kernel
theorem dX2_setKind_15 : decode cX2_setKind 15 = .ok (.iconst 1, 1) := by decide +kernel
theorem dX2_setKind_16 : decode cX2_setKind 16 = .ok (.if_icmp .ne 7, 3) := by decide +kernel
theorem dX2_setKind_19 : decode cX2_setKind 19 = .ok (.iconst (-1), 1) := by decide +kernel
theorem dX2_setKind_20 : decode cX2_setKind 20 = .ok (.goto 13, 3) := by decide +kernel
theorem dX2_setKind_23 : decode cX2_setKind 23 = .ok (.aload_n 0, 1) := by decide +kernel
theorem dX2_setKind_24 : decode cX2_setKind 24 = .ok (.getfield 33, 3) := by decide +kernel
theorem dX2_setKind_27 : decode cX2_setKind 27 = .ok (.iconst 2, 1) := by decide +kernel
theorem dX2_setKind_28 : decode cX2_setKind 28 = .ok (.iload_n 1, 1) := by decide +kernel
theorem dX2_setKind_29 : decode cX2_setKind 29 = .ok (.imul, 1) := by decide +kernel
theorem dX2_setKind_30 : decode cX2_setKind 30 = .ok (.iconst 1, 1) := by decide +kernel
theorem dX2_setKind_31 : decode cX2_setKind 31 = .ok (.iadd, 1) := by decide +kernel
theorem dX2_setKind_32 : decode cX2_setKind 32 = .ok (.iaload, 1) := by decide +kernel
theorem dX2_setKind_33 : decode cX2_setKind 33 = .ok (.iastore, 1) := by decide +kernel
theorem dX2_setKind_34 : decode cX2_setKind 34 = .ok (.return_, 1) := by decide +kernel
theorem dX2_haveCommonKnot_0 : decode cX2_haveCommonKnot 0 = .ok (.aload_n 0, 1) := by decide +kernel
theorem dX2_haveCommonKnot_1 : decode cX2_haveCommonKnot 1 = .ok (.iload_n 2, 1) := by decide +kernel
theorem dX2_haveCommonKnot_2 : decode cX2_haveCommonKnot 2 = .ok (.aload_n 0, 1) := by decide +kernel
theorem dX2_haveCommonKnot_3 : decode cX2_haveCommonKnot 3 = .ok (.getfield 33, 3) := by decide +kernel
theorem dX2_haveCommonKnot_6 : decode cX2_haveCommonKnot 6 = .ok (.iconst 2, 1) := by decide +kernel
theorem dX2_haveCommonKnot_7 : decode cX2_haveCommonKnot 7 = .ok (.iload_n 1, 1) := by decide +kernel
theorem dX2_haveCommonKnot_8 : decode cX2_haveCommonKnot 8 = .ok (.imul, 1) := by decide +kernel
theorem dX2_haveCommonKnot_9 : decode cX2_haveCommonKnot 9 = .ok (.iaload, 1) := by decide +kernel
theorem dX2_haveCommonKnot_10 : decode cX2_haveCommonKnot 10 = .ok (.invokevirtual 47, 3) := by decide +kernel
theorem dX2_haveCommonKnot_13 : decode cX2_haveCommonKnot 13 = .ok (.ifCond .ne 21, 3) := by decide +kernel
theorem dX2_haveCommonKnot_16 : decode cX2_haveCommonKnot 16 = .ok (.aload_n 0, 1) := by decide +kernel
theorem dX2_haveCommonKnot_17 : decode cX2_haveCommonKnot 17 = .ok (.iload_n 2, 1) := by decide +kernel
theorem dX2_haveCommonKnot_18 : decode cX2_haveCommonKnot 18 = .ok (.aload_n 0, 1) := by decide +kernel
theorem dX2_haveCommonKnot_19 : decode cX2_haveCommonKnot 19 = .ok (.getfield 33, 3) := by decide +kernel
theorem dX2_haveCommonKnot_22 : decode cX2_haveCommonKnot 22 = .ok (.iconst 2, 1) := by decide +kernel
theorem dX2_haveCommonKnot_23 : decode cX2_haveCommonKnot 23 = .ok (.iload_n 1, 1) := by decide +kernel
theorem dX2_haveCommonKnot_24 : decode cX2_haveCommonKnot 24 = .ok (.imul, 1) := by decide +kernel
theorem dX2_haveCommonKnot_25 : decode cX2_haveCommonKnot 25 = .ok (.iconst 1, 1) := by decide +kernel
theorem dX2_haveCommonKnot_26 : decode cX2_haveCommonKnot 26 = .ok (.iadd, 1) := by decide +kernel
theorem dX2_haveCommonKnot_27 : decode cX2_haveCommonKnot 27 = .ok (.iaload, 1) := by decide +kernel
theorem dX2_haveCommonKnot_28 : decode cX2_haveCommonKnot 28 = .ok (.invokevirtual 47, 3) := by decide +kernel
theorem dX2_haveCommonKnot_31 : decode cX2_haveCommonKnot 31 = .ok (.ifCond .eq 7, 3) := by decide +kernel
theorem dX2_haveCommonKnot_34 : decode cX2_haveCommonKnot 34 = .ok (.iconst 1, 1) := by decide +kernel
theorem dX2_haveCommonKnot_35 : decode cX2_haveCommonKnot 35 = .ok (.goto 4, 3) := by decide +kernel
theorem dX2_haveCommonKnot_38 : decode cX2_haveCommonKnot 38 = .ok (.iconst 0, 1) := by decide +kernel
theorem dX2_haveCommonKnot_39 : decode cX2_haveCommonKnot 39 = .ok (.ireturn, 1) := by decide +kernel
theorem dX2_isAtKnot_0 : decode cX2_isAtKnot 0 = .ok (.aload_n 0, 1) := by decide +kernel
theorem dX2_isAtKnot_1 : decode cX2_isAtKnot 1 = .ok (.getfield 33, 3) := by decide +kernel
theorem dX2_isAtKnot_4 : decode cX2_isAtKnot 4 = .ok (.iconst 2, 1) := by decide +kernel
theorem dX2_isAtKnot_5 : decode cX2_isAtKnot 5 = .ok (.iload_n 1, 1) := by decide +kernel
theorem dX2_isAtKnot_6 : decode cX2_isAtKnot 6 = .ok (.imul, 1) := by decide +kernel
theorem dX2_isAtKnot_7 : decode cX2_isAtKnot 7 = .ok (.iaload, 1) := by decide +kernel
theorem dX2_isAtKnot_8 : decode cX2_isAtKnot 8 = .ok (.iload_n 2, 1) := by decide +kernel
theorem dX2_isAtKnot_9 : decode cX2_isAtKnot 9 = .ok (.if_icmp .eq 17, 3) := by decide +kernel
theorem dX2_isAtKnot_12 : decode cX2_isAtKnot 12 = .ok (.aload_n 0, 1) := by decide +kernel
theorem dX2_isAtKnot_13 : decode cX2_isAtKnot 13 = .ok (.getfield 33, 3) := by decide +kernel
theorem dX2_isAtKnot_16 : decode cX2_isAtKnot 16 = .ok (.iconst 2, 1) := by decide +kernel
theorem dX2_isAtKnot_17 : decode cX2_isAtKnot 17 = .ok (.iload_n 1, 1) := by decide +kernel
theorem dX2_isAtKnot_18 : decode cX2_isAtKnot 18 = .ok (.imul, 1) := by decide +kernel
theorem dX2_isAtKnot_19 : decode cX2_isAtKnot 19 = .ok (.iconst 1, 1) := by decide +kernel
theorem dX2_isAtKnot_20 : decode cX2_isAtKnot 20 = .ok (.iadd, 1) := by decide +kernel
theorem dX2_isAtKnot_21 : decode cX2_isAtKnot 21 = .ok (.iaload, 1) := by decide +kernel
theorem dX2_isAtKnot_22 : decode cX2_isAtKnot 22 = .ok (.iload_n 2, 1) := by decide +kernel
theorem dX2_isAtKnot_23 : decode cX2_isAtKnot 23 = .ok (.if_icmp .ne 7, 3) := by decide +kernel
theorem dX2_isAtKnot_26 : decode cX2_isAtKnot 26 = .ok (.iconst 1, 1) := by decide +kernel
theorem dX2_isAtKnot_27 : decode cX2_isAtKnot 27 = .ok (.goto 4, 3) := by decide +kernel
theorem dX2_isAtKnot_30 : decode cX2_isAtKnot 30 = .ok (.iconst 0, 1) := by decide +kernel
theorem dX2_isAtKnot_31 : decode cX2_isAtKnot 31 = .ok (.ireturn, 1) := by decide +kernel
theorem dX2_isBarred_0 : decode cX2_isBarred 0 = .ok (.aload_n 0, 1) := by decide +kernel
theorem dX2_isBarred_1 : decode cX2_isBarred 1 = .ok (.getfield 27, 3) := by decide +kernel
theorem dX2_isBarred_4 : decode cX2_isBarred 4 = .ok (.iload_n 1, 1) := by decide +kernel
theorem dX2_isBarred_5 : decode cX2_isBarred 5 = .ok (.iaload, 1) := by decide +kernel
theorem dX2_isBarred_6 : decode cX2_isBarred 6 = .ok (.iload_n 2, 1) := by decide +kernel
theorem dX2_isBarred_7 : decode cX2_isBarred 7 = .ok (.ishr, 1) := by decide +kernel
theorem dX2_isBarred_8 : decode cX2_isBarred 8 = .ok (.iconst 1, 1) := by decide +kernel
theorem dX2_isBarred_9 : decode cX2_isBarred 9 = .ok (.iand, 1) := by decide +kernel
theorem dX2_isBarred_10 : decode cX2_isBarred 10 = .ok (.iconst 1, 1) := by decide +kernel
theorem dX2_isBarred_11 : decode cX2_isBarred 11 = .ok (.if_icmp .ne 7, 3) := by decide +kernel
theorem dX2_isBarred_14 : decode cX2_isBarred 14 = .ok (.iconst 1, 1) := by decide +kernel
theorem dX2_isBarred_15 : decode cX2_isBarred 15 = .ok (.goto 4, 3) := by decide +kernel
theorem dX2_isBarred_18 : decode cX2_isBarred 18 = .ok (.iconst 0, 1) := by decide +kernel
theorem dX2_isBarred_19 : decode cX2_isBarred 19 = .ok (.ireturn, 1) := by decide +kernel
theorem dX2_setBarred_0 : decode cX2_setBarred 0 = .ok (.iconst 1, 1) := by decide +kernel
theorem dX2_setBarred_1 : decode cX2_setBarred 1 = .ok (.iload_n 2, 1) := by decide +kernel
theorem dX2_setBarred_2 : decode cX2_setBarred 2 = .ok (.ishl, 1) := by decide +kernel
theorem dX2_setBarred_3 : decode cX2_setBarred 3 = .ok (.istore 4, 2) := by decide +kernel
theorem dX2_setBarred_5 : decode cX2_setBarred 5 = .ok (.aload_n 0, 1) := by decide +kernel
theorem dX2_setBarred_6 : decode cX2_setBarred 6 = .ok (.getfield 27, 3) := by decide +kernel
theorem dX2_setBarred_9 : decode cX2_setBarred 9 = .ok (.iload_n 1, 1) := by decide +kernel
theorem dX2_setBarred_10 : decode cX2_setBarred 10 = .ok (.iload_n 3, 1) := by decide +kernel
theorem dX2_setBarred_11 : decode cX2_setBarred 11 = .ok (.ifCond .eq 15, 3) := by decide +kernel
theorem dX2_setBarred_14 : decode cX2_setBarred 14 = .ok (.aload_n 0, 1) := by decide +kernel
theorem dX2_setBarred_15 : decode cX2_setBarred 15 = .ok (.getfield 27, 3) := by decide +kernel
theorem dX2_setBarred_18 : decode cX2_setBarred 18 = .ok (.iload_n 1, 1) := by decide +kernel
theorem dX2_setBarred_19 : decode cX2_setBarred 19 = .ok (.iaload, 1) := by decide +kernel
theorem dX2_setBarred_20 : decode cX2_setBarred 20 = .ok (.iload 4, 2) := by decide +kernel
theorem dX2_setBarred_22 : decode cX2_setBarred 22 = .ok (.ior, 1) := by decide +kernel
theorem dX2_setBarred_23 : decode cX2_setBarred 23 = .ok (.goto 14, 3) := by decide +kernel
theorem dX2_setBarred_26 : decode cX2_setBarred 26 = .ok (.aload_n 0, 1) := by decide +kernel
theorem dX2_setBarred_27 : decode cX2_setBarred 27 = .ok (.getfield 27, 3) := by decide +kernel
theorem dX2_setBarred_30 : decode cX2_setBarred 30 = .ok (.iload_n 1, 1) := by decide +kernel
theorem dX2_setBarred_31 : decode cX2_setBarred 31 = .ok (.iaload, 1) := by decide +kernel
theorem dX2_setBarred_32 : decode cX2_setBarred 32 = .ok (.iload 4, 2) := by decide +kernel
theorem dX2_setBarred_34 : decode cX2_setBarred 34 = .ok (.iconst (-1), 1) := by decide +kernel
theorem dX2_setBarred_35 : decode cX2_setBarred 35 = .ok (.ixor, 1) := by decide +kernel
theorem dX2_setBarred_36 : decode cX2_setBarred 36 = .ok (.iand, 1) := by decide +kernel
theorem dX2_setBarred_37 : decode cX2_setBarred 37 = .ok (.iastore, 1) := by decide +kernel
theorem dX2_setBarred_38 : decode cX2_setBarred 38 = .ok (.return_, 1) := by decide +kernel
theorem dX2_offFrom_0 : decode cX2_offFrom 0 = .ok (.iload_n 1, 1) := by decide +kernel
theorem dX2_offFrom_1 : decode cX2_offFrom 1 = .ok (.iconst 5, 1) := by decide +kernel
theorem dX2_offFrom_2 : decode cX2_offFrom 2 = .ok (.idiv, 1) := by decide +kernel
theorem dX2_offFrom_3 : decode cX2_offFrom 3 = .ok (.istore 4, 2) := by decide +kernel
theorem dX2_offFrom_5 : decode cX2_offFrom 5 = .ok (.iload_n 1, 1) := by decide +kernel
theorem dX2_offFrom_6 : decode cX2_offFrom 6 = .ok (.iconst 5, 1) := by decide +kernel
theorem dX2_offFrom_7 : decode cX2_offFrom 7 = .ok (.irem, 1) := by decide +kernel
theorem dX2_offFrom_8 : decode cX2_offFrom 8 = .ok (.istore 5, 2) := by decide +kernel
theorem dX2_offFrom_10 : decode cX2_offFrom 10 = .ok (.aload_n 0, 1) := by decide +kernel
theorem dX2_offFrom_11 : decode cX2_offFrom 11 = .ok (.getfield 9, 3) := by decide +kernel
theorem dX2_offFrom_14 : decode cX2_offFrom 14 = .ok (.aload_n 0, 1) := by decide +kernel
theorem dX2_offFrom_15 : decode cX2_offFrom 15 = .ok (.getfield 33, 3) := by decide +kernel
theorem dX2_offFrom_18 : decode cX2_offFrom 18 = .ok (.iconst 2, 1) := by decide +kernel
theorem dX2_offFrom_19 : decode cX2_offFrom 19 = .ok (.iload 4, 2) := by decide +kernel
theorem dX2_offFrom_21 : decode cX2_offFrom 21 = .ok (.imul, 1) := by decide +kernel
theorem dX2_offFrom_22 : decode cX2_offFrom 22 = .ok (.iaload, 1) := by decide +kernel
theorem dX2_offFrom_23 : decode cX2_offFrom 23 = .ok (.iaload, 1) := by decide +kernel
theorem dX2_offFrom_24 : decode cX2_offFrom 24 = .ok (.aload_n 0, 1) := by decide +kernel
theorem dX2_offFrom_25 : decode cX2_offFrom 25 = .ok (.getfield 9, 3) := by decide +kernel
theorem dX2_offFrom_28 : decode cX2_offFrom 28 = .ok (.aload_n 0, 1) := by decide +kernel
theorem dX2_offFrom_29 : decode cX2_offFrom 29 = .ok (.getfield 33, 3) := by decide +kernel
theorem dX2_offFrom_32 : decode cX2_offFrom 32 = .ok (.iconst 2, 1) := by decide +kernel
theorem dX2_offFrom_33 : decode cX2_offFrom 33 = .ok (.iload 4, 2) := by decide +kernel
theorem dX2_offFrom_35 : decode cX2_offFrom 35 = .ok (.imul, 1) := by decide +kernel
theorem dX2_offFrom_36 : decode cX2_offFrom 36 = .ok (.iconst 1, 1) := by decide +kernel
theorem dX2_offFrom_37 : decode cX2_offFrom 37 = .ok (.iadd, 1) := by decide +kernel
theorem dX2_offFrom_38 : decode cX2_offFrom 38 = .ok (.iaload, 1) := by decide +kernel
theorem dX2_offFrom_39 : decode cX2_offFrom 39 = .ok (.iaload, 1) := by decide +kernel
theorem dX2_offFrom_40 : decode cX2_offFrom 40 = .ok (.iload 5, 2) := by decide +kernel
theorem dX2_offFrom_42 : decode cX2_offFrom 42 = .ok (.invokestatic 51, 3) := by decide +kernel
theorem dX2_offFrom_45 : decode cX2_offFrom 45 = .ok (.iconst 4, 1) := by decide +kernel
theorem dX2_offFrom_46 : decode cX2_offFrom 46 = .ok (.iload_n 2, 1) := by decide +kernel
theorem dX2_offFrom_47 : decode cX2_offFrom 47 = .ok (.imul, 1) := by decide +kernel
theorem dX2_offFrom_48 : decode cX2_offFrom 48 = .ok (.isub, 1) := by decide +kernel
theorem dX2_offFrom_49 : decode cX2_offFrom 49 = .ok (.istore 6, 2) := by decide +kernel
theorem dX2_offFrom_51 : decode cX2_offFrom 51 = .ok (.aload_n 0, 1) := by decide +kernel
theorem dX2_offFrom_52 : decode cX2_offFrom 52 = .ok (.getfield 15, 3) := by decide +kernel
theorem dX2_offFrom_55 : decode cX2_offFrom 55 = .ok (.aload_n 0, 1) := by decide +kernel
theorem dX2_offFrom_56 : decode cX2_offFrom 56 = .ok (.getfield 33, 3) := by decide +kernel
theorem dX2_offFrom_59 : decode cX2_offFrom 59 = .ok (.iconst 2, 1) := by decide +kernel
theorem dX2_offFrom_60 : decode cX2_offFrom 60 = .ok (.iload 4, 2) := by decide +kernel
theorem dX2_offFrom_62 : decode cX2_offFrom 62 = .ok (.imul, 1) := by decide +kernel
theorem dX2_offFrom_63 : decode cX2_offFrom 63 = .ok (.iaload, 1) := by decide +kernel
theorem dX2_offFrom_64 : decode cX2_offFrom 64 = .ok (.iaload, 1) := by decide +kernel
theorem dX2_offFrom_65 : decode cX2_offFrom 65 = .ok (.aload_n 0, 1) := by decide +kernel
theorem dX2_offFrom_66 : decode cX2_offFrom 66 = .ok (.getfield 15, 3) := by decide +kernel
theorem dX2_offFrom_69 : decode cX2_offFrom 69 = .ok (.aload_n 0, 1) := by decide +kernel
theorem dX2_offFrom_70 : decode cX2_offFrom 70 = .ok (.getfield 33, 3) := by decide +kernel
theorem dX2_offFrom_73 : decode cX2_offFrom 73 = .ok (.iconst 2, 1) := by decide +kernel
theorem dX2_offFrom_74 : decode cX2_offFrom 74 = .ok (.iload 4, 2) := by decide +kernel
theorem dX2_offFrom_76 : decode cX2_offFrom 76 = .ok (.imul, 1) := by decide +kernel
theorem dX2_offFrom_77 : decode cX2_offFrom 77 = .ok (.iconst 1, 1) := by decide +kernel
theorem dX2_offFrom_78 : decode cX2_offFrom 78 = .ok (.iadd, 1) := by decide +kernel
theorem dX2_offFrom_79 : decode cX2_offFrom 79 = .ok (.iaload, 1) := by decide +kernel
theorem dX2_offFrom_80 : decode cX2_offFrom 80 = .ok (.iaload, 1) := by decide +kernel
theorem dX2_offFrom_81 : decode cX2_offFrom 81 = .ok (.iload 5, 2) := by decide +kernel
theorem dX2_offFrom_83 : decode cX2_offFrom 83 = .ok (.invokestatic 51, 3) := by decide +kernel
theorem dX2_offFrom_86 : decode cX2_offFrom 86 = .ok (.iconst 4, 1) := by decide +kernel
theorem dX2_offFrom_87 : decode cX2_offFrom 87 = .ok (.iload_n 3, 1) := by decide +kernel
theorem dX2_offFrom_88 : decode cX2_offFrom 88 = .ok (.imul, 1) := by decide +kernel
theorem dX2_offFrom_89 : decode cX2_offFrom 89 = .ok (.isub, 1) := by decide +kernel
theorem dX2_offFrom_90 : decode cX2_offFrom 90 = .ok (.istore 7, 2) := by decide +kernel
theorem dX2_offFrom_92 : decode cX2_offFrom 92 = .ok (.iload 6, 2) := by decide +kernel
theorem dX2_offFrom_94 : decode cX2_offFrom 94 = .ok (.iload 6, 2) := by decide +kernel
theorem dX2_offFrom_96 : decode cX2_offFrom 96 = .ok (.imul, 1) := by decide +kernel
theorem dX2_offFrom_97 : decode cX2_offFrom 97 = .ok (.iload 7, 2) := by decide +kernel
theorem dX2_offFrom_99 : decode cX2_offFrom 99 = .ok (.iload 7, 2) := by decide +kernel
theorem dX2_offFrom_101 : decode cX2_offFrom 101 = .ok (.imul, 1) := by decide +kernel
theorem dX2_offFrom_102 : decode cX2_offFrom 102 = .ok (.iadd, 1) := by decide +kernel
theorem dX2_offFrom_103 : decode cX2_offFrom 103 = .ok (.bipush 16, 2) := by decide +kernel
theorem dX2_offFrom_105 : decode cX2_offFrom 105 = .ok (.idiv, 1) := by decide +kernel
theorem dX2_offFrom_106 : decode cX2_offFrom 106 = .ok (.ireturn, 1) := by decide +kernel
theorem dX2_quartersAlong_0 : decode cX2_quartersAlong 0 = .ok (.iconst 4, 1) := by decide +kernel
theorem dX2_quartersAlong_1 : decode cX2_quartersAlong 1 = .ok (.iload_n 0, 1) := by decide +kernel
theorem dX2_quartersAlong_2 : decode cX2_quartersAlong 2 = .ok (.imul, 1) := by decide +kernel
theorem dX2_quartersAlong_3 : decode cX2_quartersAlong 3 = .ok (.iload_n 2, 1) := by decide +kernel
theorem dX2_quartersAlong_4 : decode cX2_quartersAlong 4 = .ok (.iload_n 1, 1) := by decide +kernel
theorem dX2_quartersAlong_5 : decode cX2_quartersAlong 5 = .ok (.iload_n 0, 1) := by decide +kernel
theorem dX2_quartersAlong_6 : decode cX2_quartersAlong 6 = .ok (.isub, 1) := by decide +kernel
theorem dX2_quartersAlong_7 : decode cX2_quartersAlong 7 = .ok (.imul, 1) := by decide +kernel
theorem dX2_quartersAlong_8 : decode cX2_quartersAlong 8 = .ok (.iadd, 1) := by decide +kernel
theorem dX2_quartersAlong_9 : decode cX2_quartersAlong 9 = .ok (.ireturn, 1) := by decide +kernel
theorem dX2_weightOfPart_0 : decode cX2_weightOfPart 0 = .ok (.iload_n 2, 1) := by decide +kernel
theorem dX2_weightOfPart_1 : decode cX2_weightOfPart 1 = .ok (.ifCond .le 25, 3) := by decide +kernel
theorem dX2_weightOfPart_4 : decode cX2_weightOfPart 4 = .ok (.iload_n 2, 1) := by decide +kernel
theorem dX2_weightOfPart_5 : decode cX2_weightOfPart 5 = .ok (.aload_n 0, 1) := by decide +kernel
theorem dX2_weightOfPart_6 : decode cX2_weightOfPart 6 = .ok (.getfield 18, 3) := by decide +kernel
theorem dX2_weightOfPart_9 : decode cX2_weightOfPart 9 = .ok (.iload_n 1, 1) := by decide +kernel
theorem dX2_weightOfPart_10 : decode cX2_weightOfPart 10 = .ok (.iaload, 1) := by decide +kernel
theorem dX2_weightOfPart_11 : decode cX2_weightOfPart 11 = .ok (.imul, 1) := by decide +kernel
theorem dX2_weightOfPart_12 : decode cX2_weightOfPart 12 = .ok (.sipush 10000, 3) := by decide +kernel
theorem dX2_weightOfPart_15 : decode cX2_weightOfPart 15 = .ok (.imul, 1) := by decide +kernel
theorem dX2_weightOfPart_16 : decode cX2_weightOfPart 16 = .ok (.aload_n 0, 1) := by decide +kernel
theorem dX2_weightOfPart_17 : decode cX2_weightOfPart 17 = .ok (.getfield 24, 3) := by decide +kernel
theorem dX2_weightOfPart_20 : decode cX2_weightOfPart 20 = .ok (.iload_n 1, 1) := by decide +kernel
theorem dX2_weightOfPart_21 : decode cX2_weightOfPart 21 = .ok (.iaload, 1) := by decide +kernel
theorem dX2_weightOfPart_22 : decode cX2_weightOfPart 22 = .ok (.iadd, 1) := by decide +kernel
theorem dX2_weightOfPart_23 : decode cX2_weightOfPart 23 = .ok (.goto 4, 3) := by decide +kernel
theorem dX2_weightOfPart_26 : decode cX2_weightOfPart 26 = .ok (.iconst 0, 1) := by decide +kernel
theorem dX2_weightOfPart_27 : decode cX2_weightOfPart 27 = .ok (.ireturn, 1) := by decide +kernel
theorem dX3_init_0 : decode cX3_init 0 = .ok (.aload_n 0, 1) := by decide +kernel
theorem dX3_init_1 : decode cX3_init 1 = .ok (.invokespecial 3, 3) := by decide +kernel
theorem dX3_init_4 : decode cX3_init 4 = .ok (.aload_n 0, 1) := by decide +kernel
theorem dX3_init_5 : decode cX3_init 5 = .ok (.sipush 3600, 3) := by decide +kernel
theorem dX3_init_8 : decode cX3_init 8 = .ok (.newarray .int, 2) := by decide +kernel
theorem dX3_init_10 : decode cX3_init 10 = .ok (.putfield 9, 3) := by decide +kernel
theorem dX3_init_13 : decode cX3_init 13 = .ok (.aload_n 0, 1) := by decide +kernel
theorem dX3_init_14 : decode cX3_init 14 = .ok (.bipush 60, 2) := by decide +kernel
theorem dX3_init_16 : decode cX3_init 16 = .ok (.newarray .boolean, 2) := by decide +kernel
theorem dX3_init_18 : decode cX3_init 18 = .ok (.putfield 15, 3) := by decide +kernel
theorem dX3_init_21 : decode cX3_init 21 = .ok (.aload_n 0, 1) := by decide +kernel
theorem dX3_init_22 : decode cX3_init 22 = .ok (.bipush 60, 2) := by decide +kernel
theorem dX3_init_24 : decode cX3_init 24 = .ok (.newarray .boolean, 2) := by decide +kernel
theorem dX3_init_26 : decode cX3_init 26 = .ok (.putfield 19, 3) := by decide +kernel
theorem dX3_init_29 : decode cX3_init 29 = .ok (.aload_n 0, 1) := by decide +kernel
theorem dX3_init_30 : decode cX3_init 30 = .ok (.aload_n 1, 1) := by decide +kernel
theorem dX3_init_31 : decode cX3_init 31 = .ok (.putfield 22, 3) := by decide +kernel
theorem dX3_init_34 : decode cX3_init 34 = .ok (.return_, 1) := by decide +kernel
theorem dX3_forget_0 : decode cX3_forget 0 = .ok (.iconst 0, 1) := by decide +kernel
theorem dX3_forget_1 : decode cX3_forget 1 = .ok (.istore_n 1, 1) := by decide +kernel
theorem dX3_forget_2 : decode cX3_forget 2 = .ok (.iload_n 1, 1) := by decide +kernel
theorem dX3_forget_3 : decode cX3_forget 3 = .ok (.bipush 60, 2) := by decide +kernel
theorem dX3_forget_5 : decode cX3_forget 5 = .ok (.if_icmp .ge 16, 3) := by decide +kernel
theorem dX3_forget_8 : decode cX3_forget 8 = .ok (.aload_n 0, 1) := by decide +kernel
theorem dX3_forget_9 : decode cX3_forget 9 = .ok (.getfield 15, 3) := by decide +kernel
theorem dX3_forget_12 : decode cX3_forget 12 = .ok (.iload_n 1, 1) := by decide +kernel
theorem dX3_forget_13 : decode cX3_forget 13 = .ok (.iconst 0, 1) := by decide +kernel
theorem dX3_forget_14 : decode cX3_forget 14 = .ok (.bastore, 1) := by decide +kernel
theorem dX3_forget_15 : decode cX3_forget 15 = .ok (.iinc 1 1, 3) := by decide +kernel
theorem dX3_forget_18 : decode cX3_forget 18 = .ok (.goto (-16), 3) := by decide +kernel
theorem dX3_forget_21 : decode cX3_forget 21 = .ok (.return_, 1) := by decide +kernel
theorem dX3_least_0 : decode cX3_least 0 = .ok (.iload_n 1, 1) := by decide +kernel
theorem dX3_least_1 : decode cX3_least 1 = .ok (.iload_n 2, 1) := by decide +kernel
theorem dX3_least_2 : decode cX3_least 2 = .ok (.if_icmp .ne 5, 3) := by decide +kernel
theorem dX3_least_5 : decode cX3_least 5 = .ok (.iconst 0, 1) := by decide +kernel
theorem dX3_least_6 : decode cX3_least 6 = .ok (.ireturn, 1) := by decide +kernel
theorem dX3_least_7 : decode cX3_least 7 = .ok (.iload_n 1, 1) := by decide +kernel
theorem dX3_least_8 : decode cX3_least 8 = .ok (.iconst 5, 1) := by decide +kernel
theorem dX3_least_9 : decode cX3_least 9 = .ok (.idiv, 1) := by decide +kernel
theorem dX3_least_10 : decode cX3_least 10 = .ok (.istore_n 3, 1) := by decide +kernel
theorem dX3_least_11 : decode cX3_least 11 = .ok (.iload_n 1, 1) := by decide +kernel
theorem dX3_least_12 : decode cX3_least 12 = .ok (.iconst 5, 1) := by decide +kernel
theorem dX3_least_13 : decode cX3_least 13 = .ok (.irem, 1) := by decide +kernel
theorem dX3_least_14 : decode cX3_least 14 = .ok (.istore 4, 2) := by decide +kernel
theorem dX3_least_16 : decode cX3_least 16 = .ok (.aload_n 0, 1) := by decide +kernel
theorem dX3_least_17 : decode cX3_least 17 = .ok (.iconst 2, 1) := by decide +kernel
theorem dX3_least_18 : decode cX3_least 18 = .ok (.iload_n 3, 1) := by decide +kernel
theorem dX3_least_19 : decode cX3_least 19 = .ok (.imul, 1) := by decide +kernel
theorem dX3_least_20 : decode cX3_least 20 = .ok (.invokevirtual 26, 3) := by decide +kernel
theorem dX3_least_23 : decode cX3_least 23 = .ok (.aload_n 0, 1) := by decide +kernel
theorem dX3_least_24 : decode cX3_least 24 = .ok (.iconst 2, 1) := by decide +kernel
theorem dX3_least_25 : decode cX3_least 25 = .ok (.iload_n 3, 1) := by decide +kernel
theorem dX3_least_26 : decode cX3_least 26 = .ok (.imul, 1) := by decide +kernel
theorem dX3_least_27 : decode cX3_least 27 = .ok (.iconst 1, 1) := by decide +kernel
theorem dX3_least_28 : decode cX3_least 28 = .ok (.iadd, 1) := by decide +kernel
theorem dX3_least_29 : decode cX3_least 29 = .ok (.invokevirtual 26, 3) := by decide +kernel
theorem dX3_least_32 : decode cX3_least 32 = .ok (.aload_n 0, 1) := by decide +kernel
theorem dX3_least_33 : decode cX3_least 33 = .ok (.iload_n 1, 1) := by decide +kernel
theorem dX3_least_34 : decode cX3_least 34 = .ok (.iload_n 2, 1) := by decide +kernel
theorem dX3_least_35 : decode cX3_least 35 = .ok (.invokevirtual 30, 3) := by decide +kernel
theorem dX3_least_38 : decode cX3_least 38 = .ok (.istore 5, 2) := by decide +kernel
theorem dX3_least_40 : decode cX3_least 40 = .ok (.iload 5, 2) := by decide +kernel
theorem dX3_least_42 : decode cX3_least 42 = .ok (.aload_n 0, 1) := by decide +kernel
theorem dX3_least_43 : decode cX3_least 43 = .ok (.iconst 2, 1) := by decide +kernel
theorem dX3_least_44 : decode cX3_least 44 = .ok (.iload_n 3, 1) := by decide +kernel
theorem dX3_least_45 : decode cX3_least 45 = .ok (.imul, 1) := by decide +kernel
theorem dX3_least_46 : decode cX3_least 46 = .ok (.iconst 1, 1) := by decide +kernel
theorem dX3_least_47 : decode cX3_least 47 = .ok (.iadd, 1) := by decide +kernel
theorem dX3_least_48 : decode cX3_least 48 = .ok (.aload_n 0, 1) := by decide +kernel
theorem dX3_least_49 : decode cX3_least 49 = .ok (.getfield 22, 3) := by decide +kernel
theorem dX3_least_52 : decode cX3_least 52 = .ok (.iload_n 3, 1) := by decide +kernel
theorem dX3_least_53 : decode cX3_least 53 = .ok (.iconst 4, 1) := by decide +kernel
theorem dX3_least_54 : decode cX3_least 54 = .ok (.iload 4, 2) := by decide +kernel
theorem dX3_least_56 : decode cX3_least 56 = .ok (.isub, 1) := by decide +kernel
theorem dX3_least_57 : decode cX3_least 57 = .ok (.invokevirtual 34, 3) := by decide +kernel
theorem dX3_least_60 : decode cX3_least 60 = .ok (.iload_n 2, 1) := by decide +kernel
theorem dX3_least_61 : decode cX3_least 61 = .ok (.invokevirtual 39, 3) := by decide +kernel
theorem dX3_least_64 : decode cX3_least 64 = .ok (.invokestatic 43, 3) := by decide +kernel
theorem dX3_least_67 : decode cX3_least 67 = .ok (.istore 5, 2) := by decide +kernel
theorem dX3_least_69 : decode cX3_least 69 = .ok (.aload_n 0, 1) := by decide +kernel
theorem dX3_least_70 : decode cX3_least 70 = .ok (.getfield 22, 3) := by decide +kernel
theorem dX3_least_73 : decode cX3_least 73 = .ok (.getfield 48, 3) := by decide +kernel
theorem dX3_least_76 : decode cX3_least 76 = .ok (.iload_n 3, 1) := by decide +kernel
theorem dX3_least_77 : decode cX3_least 77 = .ok (.iaload, 1) := by decide +kernel
theorem dX3_least_78 : decode cX3_least 78 = .ok (.iconst 1, 1) := by decide +kernel
theorem dX3_least_79 : decode cX3_least 79 = .ok (.if_icmp .ne 8, 3) := by decide +kernel
theorem dX3_least_82 : decode cX3_least 82 = .ok (.iload 4, 2) := by decide +kernel
theorem dX3_least_84 : decode cX3_least 84 = .ok (.ifCond .ne 28, 3) := by decide +kernel
theorem dX3_least_87 : decode cX3_least 87 = .ok (.iload 5, 2) := by decide +kernel
theorem dX3_least_89 : decode cX3_least 89 = .ok (.aload_n 0, 1) := by decide +kernel
theorem dX3_least_90 : decode cX3_least 90 = .ok (.iconst 2, 1) := by decide +kernel
theorem dX3_least_91 : decode cX3_least 91 = .ok (.iload_n 3, 1) := by decide +kernel
theorem dX3_least_92 : decode cX3_least 92 = .ok (.imul, 1) := by decide +kernel
theorem dX3_least_93 : decode cX3_least 93 = .ok (.aload_n 0, 1) := by decide +kernel
theorem dX3_least_94 : decode cX3_least 94 = .ok (.getfield 22, 3) := by decide +kernel
theorem dX3_least_97 : decode cX3_least 97 = .ok (.iload_n 3, 1) := by decide +kernel
theorem dX3_least_98 : decode cX3_least 98 = .ok (.iload 4, 2) := by decide +kernel
theorem dX3_least_100 : decode cX3_least 100 = .ok (.invokevirtual 34, 3) := by decide +kernel
theorem dX3_least_103 : decode cX3_least 103 = .ok (.iload_n 2, 1) := by decide +kernel
theorem dX3_least_104 : decode cX3_least 104 = .ok (.invokevirtual 39, 3) := by decide +kernel
theorem dX3_least_107 : decode cX3_least 107 = .ok (.invokestatic 43, 3) := by decide +kernel
theorem dX3_least_110 : decode cX3_least 110 = .ok (.istore 5, 2) := by decide +kernel
theorem dX3_least_112 : decode cX3_least 112 = .ok (.iload 5, 2) := by decide +kernel
theorem dX3_least_114 : decode cX3_least 114 = .ok (.ireturn, 1) := by decide +kernel
theorem dX3_alongOneRoad_0 : decode cX3_alongOneRoad 0 = .ok (.iload_n 1, 1) := by decide +kernel
theorem dX3_alongOneRoad_1 : decode cX3_alongOneRoad 1 = .ok (.iconst 5, 1) := by decide +kernel
theorem dX3_alongOneRoad_2 : decode cX3_alongOneRoad 2 = .ok (.idiv, 1) := by decide +kernel
theorem dX3_alongOneRoad_3 : decode cX3_alongOneRoad 3 = .ok (.istore_n 3, 1) := by decide +kernel
theorem dX3_alongOneRoad_4 : decode cX3_alongOneRoad 4 = .ok (.iload_n 2, 1) := by decide +kernel
theorem dX3_alongOneRoad_5 : decode cX3_alongOneRoad 5 = .ok (.iconst 5, 1) := by decide +kernel
theorem dX3_alongOneRoad_6 : decode cX3_alongOneRoad 6 = .ok (.idiv, 1) := by decide +kernel
theorem dX3_alongOneRoad_7 : decode cX3_alongOneRoad 7 = .ok (.iload_n 3, 1) := by decide +kernel
theorem dX3_alongOneRoad_8 : decode cX3_alongOneRoad 8 = .ok (.if_icmp .ne 21, 3) := by decide +kernel
theorem dX3_alongOneRoad_11 : decode cX3_alongOneRoad 11 = .ok (.iload_n 2, 1) := by decide +kernel
theorem dX3_alongOneRoad_12 : decode cX3_alongOneRoad 12 = .ok (.iload_n 1, 1) := by decide +kernel
theorem dX3_alongOneRoad_13 : decode cX3_alongOneRoad 13 = .ok (.if_icmp .ge 19, 3) := by decide +kernel
theorem dX3_alongOneRoad_16 : decode cX3_alongOneRoad 16 = .ok (.aload_n 0, 1) := by decide +kernel
theorem dX3_alongOneRoad_17 : decode cX3_alongOneRoad 17 = .ok (.getfield 22, 3) := by decide +kernel
theorem dX3_alongOneRoad_20 : decode cX3_alongOneRoad 20 = .ok (.getfield 48, 3) := by decide +kernel
theorem dX3_alongOneRoad_23 : decode cX3_alongOneRoad 23 = .ok (.iload_n 3, 1) := by decide +kernel
theorem dX3_alongOneRoad_24 : decode cX3_alongOneRoad 24 = .ok (.iaload, 1) := by decide +kernel
theorem dX3_alongOneRoad_25 : decode cX3_alongOneRoad 25 = .ok (.iconst 1, 1) := by decide +kernel
theorem dX3_alongOneRoad_26 : decode cX3_alongOneRoad 26 = .ok (.if_icmp .ne 6, 3) := by decide +kernel
theorem dX3_alongOneRoad_29 : decode cX3_alongOneRoad 29 = .ok (.ldc 51, 2) := by decide +kernel
theorem dX3_alongOneRoad_31 : decode cX3_alongOneRoad 31 = .ok (.ireturn, 1) := by decide +kernel
theorem dX3_alongOneRoad_32 : decode cX3_alongOneRoad 32 = .ok (.aload_n 0, 1) := by decide +kernel
theorem dX3_alongOneRoad_33 : decode cX3_alongOneRoad 33 = .ok (.getfield 22, 3) := by decide +kernel
theorem dX3_alongOneRoad_36 : decode cX3_alongOneRoad 36 = .ok (.iload_n 3, 1) := by decide +kernel
theorem dX3_alongOneRoad_37 : decode cX3_alongOneRoad 37 = .ok (.iload_n 2, 1) := by decide +kernel
theorem dX3_alongOneRoad_38 : decode cX3_alongOneRoad 38 = .ok (.iload_n 1, 1) := by decide +kernel
theorem dX3_alongOneRoad_39 : decode cX3_alongOneRoad 39 = .ok (.isub, 1) := by decide +kernel
theorem dX3_alongOneRoad_40 : decode cX3_alongOneRoad 40 = .ok (.invokestatic 52, 3) := by decide +kernel
theorem dX3_alongOneRoad_43 : decode cX3_alongOneRoad 43 = .ok (.invokevirtual 34, 3) := by decide +kernel
theorem dX3_alongOneRoad_46 : decode cX3_alongOneRoad 46 = .ok (.ireturn, 1) := by decide +kernel
theorem dX3_throughTurns_0 : decode cX3_throughTurns 0 = .ok (.iload_n 3, 1) := by decide +kernel
theorem dX3_throughTurns_1 : decode cX3_throughTurns 1 = .ok (.iconst 5, 1) := by decide +kernel
theorem dX3_throughTurns_2 : decode cX3_throughTurns 2 = .ok (.idiv, 1) := by decide +kernel
theorem dX3_throughTurns_3 : decode cX3_throughTurns 3 = .ok (.istore 4, 2) := by decide +kernel
theorem dX3_throughTurns_5 : decode cX3_throughTurns 5 = .ok (.iload_n 3, 1) := by decide +kernel
theorem dX3_throughTurns_6 : decode cX3_throughTurns 6 = .ok (.iconst 5, 1) := by decide +kernel
theorem dX3_throughTurns_7 : decode cX3_throughTurns 7 = .ok (.irem, 1) := by decide +kernel
theorem dX3_throughTurns_8 : decode cX3_throughTurns 8 = .ok (.istore 5, 2) := by decide +kernel
theorem dX3_throughTurns_10 : decode cX3_throughTurns 10 = .ok (.aload_n 0, 1) := by decide +kernel
theorem dX3_throughTurns_11 : decode cX3_throughTurns 11 = .ok (.getfield 9, 3) := by decide +kernel
theorem dX3_throughTurns_14 : decode cX3_throughTurns 14 = .ok (.iload_n 1, 1) := by decide +kernel
theorem dX3_throughTurns_15 : decode cX3_throughTurns 15 = .ok (.bipush 60, 2) := by decide +kernel
theorem dX3_throughTurns_17 : decode cX3_throughTurns 17 = .ok (.imul, 1) := by decide +kernel
theorem dX3_throughTurns_18 : decode cX3_throughTurns 18 = .ok (.iconst 2, 1) := by decide +kernel
theorem dX3_throughTurns_19 : decode cX3_throughTurns 19 = .ok (.iload 4, 2) := by decide +kernel
theorem dX3_throughTurns_21 : decode cX3_throughTurns 21 = .ok (.imul, 1) := by decide +kernel
theorem dX3_throughTurns_22 : decode cX3_throughTurns 22 = .ok (.iadd, 1) := by decide +kernel
theorem dX3_throughTurns_23 : decode cX3_throughTurns 23 = .ok (.iaload, 1) := by decide +kernel
theorem dX3_throughTurns_24 : decode cX3_throughTurns 24 = .ok (.istore 6, 2) := by decide +kernel
theorem dX3_throughTurns_26 : decode cX3_throughTurns 26 = .ok (.aload_n 0, 1) := by decide +kernel
theorem dX3_throughTurns_27 : decode cX3_throughTurns 27 = .ok (.getfield 9, 3) := by decide +kernel
theorem dX3_throughTurns_30 : decode cX3_throughTurns 30 = .ok (.iload_n 1, 1) := by decide +kernel
theorem dX3_throughTurns_31 : decode cX3_throughTurns 31 = .ok (.bipush 60, 2) := by decide +kernel
theorem dX3_throughTurns_33 : decode cX3_throughTurns 33 = .ok (.imul, 1) := by decide +kernel
theorem dX3_throughTurns_34 : decode cX3_throughTurns 34 = .ok (.iconst 2, 1) := by decide +kernel
theorem dX3_throughTurns_35 : decode cX3_throughTurns 35 = .ok (.iload 4, 2) := by decide +kernel
theorem dX3_throughTurns_37 : decode cX3_throughTurns 37 = .ok (.imul, 1) := by decide +kernel
theorem dX3_throughTurns_38 : decode cX3_throughTurns 38 = .ok (.iadd, 1) := by decide +kernel
theorem dX3_throughTurns_39 : decode cX3_throughTurns 39 = .ok (.iconst 1, 1) := by decide +kernel
theorem dX3_throughTurns_40 : decode cX3_throughTurns 40 = .ok (.iadd, 1) := by decide +kernel
theorem dX3_throughTurns_41 : decode cX3_throughTurns 41 = .ok (.iaload, 1) := by decide +kernel
theorem dX3_throughTurns_42 : decode cX3_throughTurns 42 = .ok (.istore 7, 2) := by decide +kernel
theorem dX3_throughTurns_44 : decode cX3_throughTurns 44 = .ok (.ldc 51, 2) := by decide +kernel
theorem dX3_throughTurns_46 : decode cX3_throughTurns 46 = .ok (.istore 8, 2) := by decide +kernel
theorem dX3_throughTurns_48 : decode cX3_throughTurns 48 = .ok (.iload 6, 2) := by decide +kernel
theorem dX3_throughTurns_50 : decode cX3_throughTurns 50 = .ok (.ldc 51, 2) := by decide +kernel
theorem dX3_throughTurns_52 : decode cX3_throughTurns 52 = .ok (.if_icmp .eq 23, 3) := by decide +kernel
theorem dX3_throughTurns_55 : decode cX3_throughTurns 55 = .ok (.iload_n 2, 1) := by decide +kernel
theorem dX3_throughTurns_56 : decode cX3_throughTurns 56 = .ok (.iload 6, 2) := by decide +kernel
theorem dX3_throughTurns_58 : decode cX3_throughTurns 58 = .ok (.iadd, 1) := by decide +kernel
theorem dX3_throughTurns_59 : decode cX3_throughTurns 59 = .ok (.aload_n 0, 1) := by decide +kernel
theorem dX3_throughTurns_60 : decode cX3_throughTurns 60 = .ok (.getfield 22, 3) := by decide +kernel
theorem dX3_throughTurns_63 : decode cX3_throughTurns 63 = .ok (.iload 4, 2) := by decide +kernel
theorem dX3_throughTurns_65 : decode cX3_throughTurns 65 = .ok (.iconst 4, 1) := by decide +kernel
theorem dX3_throughTurns_66 : decode cX3_throughTurns 66 = .ok (.iload 5, 2) := by decide +kernel
theorem dX3_throughTurns_68 : decode cX3_throughTurns 68 = .ok (.isub, 1) := by decide +kernel
theorem dX3_throughTurns_69 : decode cX3_throughTurns 69 = .ok (.invokevirtual 34, 3) := by decide +kernel
theorem dX3_throughTurns_72 : decode cX3_throughTurns 72 = .ok (.iadd, 1) := by decide +kernel
theorem dX3_throughTurns_73 : decode cX3_throughTurns 73 = .ok (.istore 8, 2) := by decide +kernel
theorem dX3_throughTurns_75 : decode cX3_throughTurns 75 = .ok (.iload 7, 2) := by decide +kernel
theorem dX3_throughTurns_77 : decode cX3_throughTurns 77 = .ok (.ldc 51, 2) := by decide +kernel
theorem dX3_throughTurns_79 : decode cX3_throughTurns 79 = .ok (.if_icmp .eq 26, 3) := by decide +kernel
theorem dX3_throughTurns_82 : decode cX3_throughTurns 82 = .ok (.iload 8, 2) := by decide +kernel
theorem dX3_throughTurns_84 : decode cX3_throughTurns 84 = .ok (.iload_n 2, 1) := by decide +kernel
theorem dX3_throughTurns_85 : decode cX3_throughTurns 85 = .ok (.iload 7, 2) := by decide +kernel
theorem dX3_throughTurns_87 : decode cX3_throughTurns 87 = .ok (.iadd, 1) := by decide +kernel
theorem dX3_throughTurns_88 : decode cX3_throughTurns 88 = .ok (.aload_n 0, 1) := by decide +kernel
theorem dX3_throughTurns_89 : decode cX3_throughTurns 89 = .ok (.getfield 22, 3) := by decide +kernel
theorem dX3_throughTurns_92 : decode cX3_throughTurns 92 = .ok (.iload 4, 2) := by decide +kernel
theorem dX3_throughTurns_94 : decode cX3_throughTurns 94 = .ok (.iload 5, 2) := by decide +kernel
theorem dX3_throughTurns_96 : decode cX3_throughTurns 96 = .ok (.invokevirtual 34, 3) := by decide +kernel
theorem dX3_throughTurns_99 : decode cX3_throughTurns 99 = .ok (.iadd, 1) := by decide +kernel
theorem dX3_throughTurns_100 : decode cX3_throughTurns 100 = .ok (.invokestatic 43, 3) := by decide +kernel
theorem dX3_throughTurns_103 : decode cX3_throughTurns 103 = .ok (.istore 8, 2) := by decide +kernel
theorem dX3_throughTurns_105 : decode cX3_throughTurns 105 = .ok (.iload 8, 2) := by decide +kernel
theorem dX3_throughTurns_107 : decode cX3_throughTurns 107 = .ok (.ireturn, 1) := by decide +kernel
theorem dX3_know_0 : decode cX3_know 0 = .ok (.aload_n 0, 1) := by decide +kernel
theorem dX3_know_1 : decode cX3_know 1 = .ok (.getfield 15, 3) := by decide +kernel
theorem dX3_know_4 : decode cX3_know 4 = .ok (.iload_n 1, 1) := by decide +kernel
theorem dX3_know_5 : decode cX3_know 5 = .ok (.baload, 1) := by decide +kernel
theorem dX3_know_6 : decode cX3_know 6 = .ok (.ifCond .eq 4, 3) := by decide +kernel
theorem dX3_know_9 : decode cX3_know 9 = .ok (.return_, 1) := by decide +kernel
theorem dX3_know_10 : decode cX3_know 10 = .ok (.aload_n 0, 1) := by decide +kernel
theorem dX3_know_11 : decode cX3_know 11 = .ok (.getfield 15, 3) := by decide +kernel
theorem dX3_know_14 : decode cX3_know 14 = .ok (.iload_n 1, 1) := by decide +kernel
theorem dX3_know_15 : decode cX3_know 15 = .ok (.iconst 1, 1) := by decide +kernel
theorem dX3_know_16 : decode cX3_know 16 = .ok (.bastore, 1) := by decide +kernel
theorem dX3_know_17 : decode cX3_know 17 = .ok (.iload_n 1, 1) := by decide +kernel
theorem dX3_know_18 : decode cX3_know 18 = .ok (.bipush 60, 2) := by decide +kernel
theorem dX3_know_20 : decode cX3_know 20 = .ok (.imul, 1) := by decide +kernel
theorem dX3_know_21 : decode cX3_know 21 = .ok (.istore_n 2, 1) := by decide +kernel
theorem dX3_know_22 : decode cX3_know 22 = .ok (.iconst 2, 1) := by decide +kernel
theorem dX3_know_23 : decode cX3_know 23 = .ok (.aload_n 0, 1) := by decide +kernel
theorem dX3_know_24 : decode cX3_know 24 = .ok (.getfield 22, 3) := by decide +kernel
theorem dX3_know_27 : decode cX3_know 27 = .ok (.getfield 56, 3) := by decide +kernel
theorem dX3_know_30 : decode cX3_know 30 = .ok (.imul, 1) := by decide +kernel
theorem dX3_know_31 : decode cX3_know 31 = .ok (.istore_n 3, 1) := by decide +kernel
theorem dX3_know_32 : decode cX3_know 32 = .ok (.iconst 0, 1) := by decide +kernel
theorem dX3_know_33 : decode cX3_know 33 = .ok (.istore 4, 2) := by decide +kernel
theorem dX3_know_35 : decode cX3_know 35 = .ok (.iload 4, 2) := by decide +kernel
theorem dX3_know_37 : decode cX3_know 37 = .ok (.iload_n 3, 1) := by decide +kernel
theorem dX3_know_38 : decode cX3_know 38 = .ok (.if_icmp .ge 28, 3) := by decide +kernel
theorem dX3_know_41 : decode cX3_know 41 = .ok (.aload_n 0, 1) := by decide +kernel
theorem dX3_know_42 : decode cX3_know 42 = .ok (.getfield 9, 3) := by decide +kernel
theorem dX3_know_45 : decode cX3_know 45 = .ok (.iload_n 2, 1) := by decide +kernel
theorem dX3_know_46 : decode cX3_know 46 = .ok (.iload 4, 2) := by decide +kernel
theorem dX3_know_48 : decode cX3_know 48 = .ok (.iadd, 1) := by decide +kernel
theorem dX3_know_49 : decode cX3_know 49 = .ok (.ldc 51, 2) := by decide +kernel
theorem dX3_know_51 : decode cX3_know 51 = .ok (.iastore, 1) := by decide +kernel
theorem dX3_know_52 : decode cX3_know 52 = .ok (.aload_n 0, 1) := by decide +kernel
theorem dX3_know_53 : decode cX3_know 53 = .ok (.getfield 19, 3) := by decide +kernel
theorem dX3_know_56 : decode cX3_know 56 = .ok (.iload 4, 2) := by decide +kernel
theorem dX3_know_58 : decode cX3_know 58 = .ok (.iconst 0, 1) := by decide +kernel
theorem dX3_know_59 : decode cX3_know 59 = .ok (.bastore, 1) := by decide +kernel
theorem dX3_know_60 : decode cX3_know 60 = .ok (.iinc 4 1, 3) := by decide +kernel
theorem dX3_know_63 : decode cX3_know 63 = .ok (.goto (-28), 3) := by decide +kernel
theorem dX3_know_66 : decode cX3_know 66 = .ok (.aload_n 0, 1) := by decide +kernel
theorem dX3_know_67 : decode cX3_know 67 = .ok (.iload_n 1, 1) := by decide +kernel
theorem dX3_know_68 : decode cX3_know 68 = .ok (.iconst 0, 1) := by decide +kernel
theorem dX3_know_69 : decode cX3_know 69 = .ok (.iload_n 2, 1) := by decide +kernel
theorem dX3_know_70 : decode cX3_know 70 = .ok (.invokevirtual 60, 3) := by decide +kernel
theorem dX3_know_73 : decode cX3_know 73 = .ok (.iconst 0, 1) := by decide +kernel
theorem dX3_know_74 : decode cX3_know 74 = .ok (.istore 4, 2) := by decide +kernel
theorem dX3_know_76 : decode cX3_know 76 = .ok (.iload 4, 2) := by decide +kernel
theorem dX3_know_78 : decode cX3_know 78 = .ok (.iload_n 3, 1) := by decide +kernel
theorem dX3_know_79 : decode cX3_know 79 = .ok (.if_icmp .ge 63, 3) := by decide +kernel
theorem dX3_know_82 : decode cX3_know 82 = .ok (.aload_n 0, 1) := by decide +kernel
theorem dX3_know_83 : decode cX3_know 83 = .ok (.iload_n 2, 1) := by decide +kernel
theorem dX3_know_84 : decode cX3_know 84 = .ok (.iload_n 3, 1) := by decide +kernel
theorem dX3_know_85 : decode cX3_know 85 = .ok (.invokevirtual 64, 3) := by decide +kernel
theorem dX3_know_88 : decode cX3_know 88 = .ok (.istore 5, 2) := by decide +kernel
theorem dX3_know_90 : decode cX3_know 90 = .ok (.iload 5, 2) := by decide +kernel
theorem dX3_know_92 : decode cX3_know 92 = .ok (.iconst (-1), 1) := by decide +kernel
theorem dX3_know_93 : decode cX3_know 93 = .ok (.if_icmp .ne 6, 3) := by decide +kernel
theorem dX3_know_96 : decode cX3_know 96 = .ok (.goto 46, 3) := by decide +kernel
theorem dX3_know_99 : decode cX3_know 99 = .ok (.aload_n 0, 1) := by decide +kernel
theorem dX3_know_100 : decode cX3_know 100 = .ok (.getfield 19, 3) := by decide +kernel
theorem dX3_know_103 : decode cX3_know 103 = .ok (.iload 5, 2) := by decide +kernel
theorem dX3_know_105 : decode cX3_know 105 = .ok (.iconst 1, 1) := by decide +kernel
theorem dX3_know_106 : decode cX3_know 106 = .ok (.bastore, 1) := by decide +kernel
theorem dX3_know_107 : decode cX3_know 107 = .ok (.aload_n 0, 1) := by decide +kernel
theorem dX3_know_108 : decode cX3_know 108 = .ok (.iload 5, 2) := by decide +kernel
theorem dX3_know_110 : decode cX3_know 110 = .ok (.aload_n 0, 1) := by decide +kernel
theorem dX3_know_111 : decode cX3_know 111 = .ok (.getfield 9, 3) := by decide +kernel
theorem dX3_know_114 : decode cX3_know 114 = .ok (.iload_n 2, 1) := by decide +kernel
theorem dX3_know_115 : decode cX3_know 115 = .ok (.iload 5, 2) := by decide +kernel
theorem dX3_know_117 : decode cX3_know 117 = .ok (.iadd, 1) := by decide +kernel
theorem dX3_know_118 : decode cX3_know 118 = .ok (.iaload, 1) := by decide +kernel
theorem dX3_know_119 : decode cX3_know 119 = .ok (.aload_n 0, 1) := by decide +kernel
theorem dX3_know_120 : decode cX3_know 120 = .ok (.getfield 22, 3) := by decide +kernel
theorem dX3_know_123 : decode cX3_know 123 = .ok (.iload 5, 2) := by decide +kernel
theorem dX3_know_125 : decode cX3_know 125 = .ok (.iconst 2, 1) := by decide +kernel
theorem dX3_know_126 : decode cX3_know 126 = .ok (.idiv, 1) := by decide +kernel
theorem dX3_know_127 : decode cX3_know 127 = .ok (.iconst 4, 1) := by decide +kernel
theorem dX3_know_128 : decode cX3_know 128 = .ok (.invokevirtual 34, 3) := by decide +kernel
theorem dX3_know_131 : decode cX3_know 131 = .ok (.iadd, 1) := by decide +kernel
theorem dX3_know_132 : decode cX3_know 132 = .ok (.iload_n 2, 1) := by decide +kernel
theorem dX3_know_133 : decode cX3_know 133 = .ok (.invokevirtual 60, 3) := by decide +kernel
theorem dX3_know_136 : decode cX3_know 136 = .ok (.iinc 4 1, 3) := by decide +kernel
theorem dX3_know_139 : decode cX3_know 139 = .ok (.goto (-63), 3) := by decide +kernel
theorem dX3_know_142 : decode cX3_know 142 = .ok (.return_, 1) := by decide +kernel
theorem dX3_nearestOpen_0 : decode cX3_nearestOpen 0 = .ok (.iconst (-1), 1) := by decide +kernel
theorem dX3_nearestOpen_1 : decode cX3_nearestOpen 1 = .ok (.istore_n 3, 1) := by decide +kernel
theorem dX3_nearestOpen_2 : decode cX3_nearestOpen 2 = .ok (.ldc 51, 2) := by decide +kernel
theorem dX3_nearestOpen_4 : decode cX3_nearestOpen 4 = .ok (.istore 4, 2) := by decide +kernel
theorem dX3_nearestOpen_6 : decode cX3_nearestOpen 6 = .ok (.iconst 0, 1) := by decide +kernel
theorem dX3_nearestOpen_7 : decode cX3_nearestOpen 7 = .ok (.istore 5, 2) := by decide +kernel
theorem dX3_nearestOpen_9 : decode cX3_nearestOpen 9 = .ok (.iload 5, 2) := by decide +kernel
theorem dX3_nearestOpen_11 : decode cX3_nearestOpen 11 = .ok (.iload_n 2, 1) := by decide +kernel
theorem dX3_nearestOpen_12 : decode cX3_nearestOpen 12 = .ok (.if_icmp .ge 47, 3) := by decide +kernel
theorem dX3_nearestOpen_15 : decode cX3_nearestOpen 15 = .ok (.aload_n 0, 1) := by decide +kernel
theorem dX3_nearestOpen_16 : decode cX3_nearestOpen 16 = .ok (.getfield 9, 3) := by decide +kernel
theorem dX3_nearestOpen_19 : decode cX3_nearestOpen 19 = .ok (.iload_n 1, 1) := by decide +kernel
theorem dX3_nearestOpen_20 : decode cX3_nearestOpen 20 = .ok (.iload 5, 2) := by decide +kernel
theorem dX3_nearestOpen_22 : decode cX3_nearestOpen 22 = .ok (.iadd, 1) := by decide +kernel
theorem dX3_nearestOpen_23 : decode cX3_nearestOpen 23 = .ok (.iaload, 1) := by decide +kernel
theorem dX3_nearestOpen_24 : decode cX3_nearestOpen 24 = .ok (.iload 4, 2) := by decide +kernel
theorem dX3_nearestOpen_26 : decode cX3_nearestOpen 26 = .ok (.if_icmp .ge 27, 3) := by decide +kernel
theorem dX3_nearestOpen_29 : decode cX3_nearestOpen 29 = .ok (.aload_n 0, 1) := by decide +kernel
theorem dX3_nearestOpen_30 : decode cX3_nearestOpen 30 = .ok (.getfield 19, 3) := by decide +kernel
theorem dX3_nearestOpen_33 : decode cX3_nearestOpen 33 = .ok (.iload 5, 2) := by decide +kernel
theorem dX3_nearestOpen_35 : decode cX3_nearestOpen 35 = .ok (.baload, 1) := by decide +kernel
theorem dX3_nearestOpen_36 : decode cX3_nearestOpen 36 = .ok (.ifCond .ne 17, 3) := by decide +kernel
theorem dX3_nearestOpen_39 : decode cX3_nearestOpen 39 = .ok (.iload 5, 2) := by decide +kernel
theorem dX3_nearestOpen_41 : decode cX3_nearestOpen 41 = .ok (.istore_n 3, 1) := by decide +kernel
theorem dX3_nearestOpen_42 : decode cX3_nearestOpen 42 = .ok (.aload_n 0, 1) := by decide +kernel
theorem dX3_nearestOpen_43 : decode cX3_nearestOpen 43 = .ok (.getfield 9, 3) := by decide +kernel
theorem dX3_nearestOpen_46 : decode cX3_nearestOpen 46 = .ok (.iload_n 1, 1) := by decide +kernel
theorem dX3_nearestOpen_47 : decode cX3_nearestOpen 47 = .ok (.iload 5, 2) := by decide +kernel
theorem dX3_nearestOpen_49 : decode cX3_nearestOpen 49 = .ok (.iadd, 1) := by decide +kernel
theorem dX3_nearestOpen_50 : decode cX3_nearestOpen 50 = .ok (.iaload, 1) := by decide +kernel
theorem dX3_nearestOpen_51 : decode cX3_nearestOpen 51 = .ok (.istore 4, 2) := by decide +kernel
theorem dX3_nearestOpen_53 : decode cX3_nearestOpen 53 = .ok (.iinc 5 1, 3) := by decide +kernel
theorem dX3_nearestOpen_56 : decode cX3_nearestOpen 56 = .ok (.goto (-47), 3) := by decide +kernel
theorem dX3_nearestOpen_59 : decode cX3_nearestOpen 59 = .ok (.iload_n 3, 1) := by decide +kernel
theorem dX3_nearestOpen_60 : decode cX3_nearestOpen 60 = .ok (.ireturn, 1) := by decide +kernel
theorem dX3_turnFrom_0 : decode cX3_turnFrom 0 = .ok (.aload_n 0, 1) := by decide +kernel
theorem dX3_turnFrom_1 : decode cX3_turnFrom 1 = .ok (.getfield 22, 3) := by decide +kernel
theorem dX3_turnFrom_4 : decode cX3_turnFrom 4 = .ok (.getfield 67, 3) := by decide +kernel
theorem dX3_turnFrom_7 : decode cX3_turnFrom 7 = .ok (.iload_n 1, 1) := by decide +kernel
theorem dX3_turnFrom_8 : decode cX3_turnFrom 8 = .ok (.iaload, 1) := by decide +kernel
theorem dX3_turnFrom_9 : decode cX3_turnFrom 9 = .ok (.istore 4, 2) := by decide +kernel
theorem dX3_turnFrom_11 : decode cX3_turnFrom 11 = .ok (.aload_n 0, 1) := by decide +kernel
theorem dX3_turnFrom_12 : decode cX3_turnFrom 12 = .ok (.getfield 22, 3) := by decide +kernel
theorem dX3_turnFrom_15 : decode cX3_turnFrom 15 = .ok (.getfield 70, 3) := by decide +kernel
theorem dX3_turnFrom_18 : decode cX3_turnFrom 18 = .ok (.iload_n 1, 1) := by decide +kernel
theorem dX3_turnFrom_19 : decode cX3_turnFrom 19 = .ok (.iconst 2, 1) := by decide +kernel
theorem dX3_turnFrom_20 : decode cX3_turnFrom 20 = .ok (.idiv, 1) := by decide +kernel
theorem dX3_turnFrom_21 : decode cX3_turnFrom 21 = .ok (.iaload, 1) := by decide +kernel
theorem dX3_turnFrom_22 : decode cX3_turnFrom 22 = .ok (.istore 5, 2) := by decide +kernel
theorem dX3_turnFrom_24 : decode cX3_turnFrom 24 = .ok (.iconst 2, 1) := by decide +kernel
theorem dX3_turnFrom_25 : decode cX3_turnFrom 25 = .ok (.aload_n 0, 1) := by decide +kernel
theorem dX3_turnFrom_26 : decode cX3_turnFrom 26 = .ok (.getfield 22, 3) := by decide +kernel
theorem dX3_turnFrom_29 : decode cX3_turnFrom 29 = .ok (.getfield 56, 3) := by decide +kernel
theorem dX3_turnFrom_32 : decode cX3_turnFrom 32 = .ok (.imul, 1) := by decide +kernel
theorem dX3_turnFrom_33 : decode cX3_turnFrom 33 = .ok (.istore 6, 2) := by decide +kernel
theorem dX3_turnFrom_35 : decode cX3_turnFrom 35 = .ok (.iconst 0, 1) := by decide +kernel
theorem dX3_turnFrom_36 : decode cX3_turnFrom 36 = .ok (.istore 7, 2) := by decide +kernel
theorem dX3_turnFrom_38 : decode cX3_turnFrom 38 = .ok (.iload 7, 2) := by decide +kernel
theorem dX3_turnFrom_40 : decode cX3_turnFrom 40 = .ok (.iload 6, 2) := by decide +kernel
theorem dX3_turnFrom_42 : decode cX3_turnFrom 42 = .ok (.if_icmp .ge 59, 3) := by decide +kernel
theorem dX3_turnFrom_45 : decode cX3_turnFrom 45 = .ok (.aload_n 0, 1) := by decide +kernel
theorem dX3_turnFrom_46 : decode cX3_turnFrom 46 = .ok (.getfield 22, 3) := by decide +kernel
theorem dX3_turnFrom_49 : decode cX3_turnFrom 49 = .ok (.getfield 73, 3) := by decide +kernel
theorem dX3_turnFrom_52 : decode cX3_turnFrom 52 = .ok (.iload 7, 2) := by decide +kernel
theorem dX3_turnFrom_54 : decode cX3_turnFrom 54 = .ok (.iaload, 1) := by decide +kernel
theorem dX3_turnFrom_55 : decode cX3_turnFrom 55 = .ok (.iload 4, 2) := by decide +kernel
theorem dX3_turnFrom_57 : decode cX3_turnFrom 57 = .ok (.if_icmp .ne 38, 3) := by decide +kernel
theorem dX3_turnFrom_60 : decode cX3_turnFrom 60 = .ok (.iload 5, 2) := by decide +kernel
theorem dX3_turnFrom_62 : decode cX3_turnFrom 62 = .ok (.iload 7, 2) := by decide +kernel
theorem dX3_turnFrom_64 : decode cX3_turnFrom 64 = .ok (.iconst 2, 1) := by decide +kernel
theorem dX3_turnFrom_65 : decode cX3_turnFrom 65 = .ok (.idiv, 1) := by decide +kernel
theorem dX3_turnFrom_66 : decode cX3_turnFrom 66 = .ok (.ishr, 1) := by decide +kernel
theorem dX3_turnFrom_67 : decode cX3_turnFrom 67 = .ok (.iconst 1, 1) := by decide +kernel
theorem dX3_turnFrom_68 : decode cX3_turnFrom 68 = .ok (.iand, 1) := by decide +kernel
theorem dX3_turnFrom_69 : decode cX3_turnFrom 69 = .ok (.ifCond .ne 26, 3) := by decide +kernel
theorem dX3_turnFrom_72 : decode cX3_turnFrom 72 = .ok (.iload_n 2, 1) := by decide +kernel
theorem dX3_turnFrom_73 : decode cX3_turnFrom 73 = .ok (.aload_n 0, 1) := by decide +kernel
theorem dX3_turnFrom_74 : decode cX3_turnFrom 74 = .ok (.getfield 9, 3) := by decide +kernel
theorem dX3_turnFrom_77 : decode cX3_turnFrom 77 = .ok (.iload_n 3, 1) := by decide +kernel
theorem dX3_turnFrom_78 : decode cX3_turnFrom 78 = .ok (.iload 7, 2) := by decide +kernel
theorem dX3_turnFrom_80 : decode cX3_turnFrom 80 = .ok (.iadd, 1) := by decide +kernel
theorem dX3_turnFrom_81 : decode cX3_turnFrom 81 = .ok (.iaload, 1) := by decide +kernel
theorem dX3_turnFrom_82 : decode cX3_turnFrom 82 = .ok (.if_icmp .ge 13, 3) := by decide +kernel
theorem dX3_turnFrom_85 : decode cX3_turnFrom 85 = .ok (.aload_n 0, 1) := by decide +kernel
theorem dX3_turnFrom_86 : decode cX3_turnFrom 86 = .ok (.getfield 9, 3) := by decide +kernel
theorem dX3_turnFrom_89 : decode cX3_turnFrom 89 = .ok (.iload_n 3, 1) := by decide +kernel
theorem dX3_turnFrom_90 : decode cX3_turnFrom 90 = .ok (.iload 7, 2) := by decide +kernel
theorem dX3_turnFrom_92 : decode cX3_turnFrom 92 = .ok (.iadd, 1) := by decide +kernel
theorem dX3_turnFrom_93 : decode cX3_turnFrom 93 = .ok (.iload_n 2, 1) := by decide +kernel
theorem dX3_turnFrom_94 : decode cX3_turnFrom 94 = .ok (.iastore, 1) := by decide +kernel
theorem dX3_turnFrom_95 : decode cX3_turnFrom 95 = .ok (.iinc 7 1, 3) := by decide +kernel
theorem dX3_turnFrom_98 : decode cX3_turnFrom 98 = .ok (.goto (-60), 3) := by decide +kernel
theorem dX3_turnFrom_101 : decode cX3_turnFrom 101 = .ok (.return_, 1) := by decide +kernel
end
section
theorem dX1_init_0 : decode cX1_init 0 = .ok (.aload_n 0, 1) := by decide +kernel
theorem dX1_init_1 : decode cX1_init 1 = .ok (.invokespecial 3, 3) := by decide +kernel
theorem dX1_init_4 : decode cX1_init 4 = .ok (.aload_n 0, 1) := by decide +kernel
theorem dX1_init_5 : decode cX1_init 5 = .ok (.bipush 20, 2) := by decide +kernel
theorem dX1_init_7 : decode cX1_init 7 = .ok (.putfield 9, 3) := by decide +kernel
theorem dX1_init_10 : decode cX1_init 10 = .ok (.aload_n 0, 1) := by decide +kernel
theorem dX1_init_11 : decode cX1_init 11 = .ok (.sipush 200, 3) := by decide +kernel
theorem dX1_init_14 : decode cX1_init 14 = .ok (.putfield 15, 3) := by decide +kernel
theorem dX1_init_17 : decode cX1_init 17 = .ok (.aload_n 0, 1) := by decide +kernel
theorem dX1_init_18 : decode cX1_init 18 = .ok (.bipush 20, 2) := by decide +kernel
theorem dX1_init_20 : decode cX1_init 20 = .ok (.newarray .int, 2) := by decide +kernel
theorem dX1_init_22 : decode cX1_init 22 = .ok (.putfield 18, 3) := by decide +kernel
theorem dX1_init_25 : decode cX1_init 25 = .ok (.aload_n 0, 1) := by decide +kernel
theorem dX1_init_26 : decode cX1_init 26 = .ok (.sipush 200, 3) := by decide +kernel
theorem dX1_init_29 : decode cX1_init 29 = .ok (.newarray .int, 2) := by decide +kernel
theorem dX1_init_31 : decode cX1_init 31 = .ok (.putfield 22, 3) := by decide +kernel
theorem dX1_init_34 : decode cX1_init 34 = .ok (.aload_n 0, 1) := by decide +kernel
theorem dX1_init_35 : decode cX1_init 35 = .ok (.bipush 20, 2) := by decide +kernel
theorem dX1_init_37 : decode cX1_init 37 = .ok (.newarray .int, 2) := by decide +kernel
theorem dX1_init_39 : decode cX1_init 39 = .ok (.putfield 25, 3) := by decide +kernel
theorem dX1_init_42 : decode cX1_init 42 = .ok (.aload_n 0, 1) := by decide +kernel
theorem dX1_init_43 : decode cX1_init 43 = .ok (.sipush 200, 3) := by decide +kernel
theorem dX1_init_46 : decode cX1_init 46 = .ok (.newarray .int, 2) := by decide +kernel
theorem dX1_init_48 : decode cX1_init 48 = .ok (.putfield 28, 3) := by decide +kernel
theorem dX1_init_51 : decode cX1_init 51 = .ok (.aload_n 0, 1) := by decide +kernel
theorem dX1_init_52 : decode cX1_init 52 = .ok (.sipush 200, 3) := by decide +kernel
theorem dX1_init_55 : decode cX1_init 55 = .ok (.newarray .int, 2) := by decide +kernel
theorem dX1_init_57 : decode cX1_init 57 = .ok (.putfield 31, 3) := by decide +kernel
theorem dX1_init_60 : decode cX1_init 60 = .ok (.aload_n 0, 1) := by decide +kernel
theorem dX1_init_61 : decode cX1_init 61 = .ok (.sipush 200, 3) := by decide +kernel
theorem dX1_init_64 : decode cX1_init 64 = .ok (.newarray .int, 2) := by decide +kernel
theorem dX1_init_66 : decode cX1_init 66 = .ok (.putfield 34, 3) := by decide +kernel
theorem dX1_init_69 : decode cX1_init 69 = .ok (.aload_n 0, 1) := by decide +kernel
theorem dX1_init_70 : decode cX1_init 70 = .ok (.bipush 20, 2) := by decide +kernel
theorem dX1_init_72 : decode cX1_init 72 = .ok (.newarray .int, 2) := by decide +kernel
theorem dX1_init_74 : decode cX1_init 74 = .ok (.putfield 37, 3) := by decide +kernel
theorem dX1_init_77 : decode cX1_init 77 = .ok (.aload_n 0, 1) := by decide +kernel
theorem dX1_init_78 : decode cX1_init 78 = .ok (.bipush 20, 2) := by decide +kernel
theorem dX1_init_80 : decode cX1_init 80 = .ok (.newarray .int, 2) := by decide +kernel
theorem dX1_init_82 : decode cX1_init 82 = .ok (.putfield 40, 3) := by decide +kernel
theorem dX1_init_85 : decode cX1_init 85 = .ok (.aload_n 0, 1) := by decide +kernel
theorem dX1_init_86 : decode cX1_init 86 = .ok (.aload_n 1, 1) := by decide +kernel
theorem dX1_init_87 : decode cX1_init 87 = .ok (.putfield 43, 3) := by decide +kernel
theorem dX1_init_90 : decode cX1_init 90 = .ok (.aload_n 0, 1) := by decide +kernel
theorem dX1_init_91 : decode cX1_init 91 = .ok (.aload_n 2, 1) := by decide +kernel
theorem dX1_init_92 : decode cX1_init 92 = .ok (.putfield 47, 3) := by decide +kernel
theorem dX1_init_95 : decode cX1_init 95 = .ok (.return_, 1) := by decide +kernel
theorem dX1_forget_0 : decode cX1_forget 0 = .ok (.aload_n 0, 1) := by decide +kernel
theorem dX1_forget_1 : decode cX1_forget 1 = .ok (.aconst_null, 1) := by decide +kernel
theorem dX1_forget_2 : decode cX1_forget 2 = .ok (.putfield 51, 3) := by decide +kernel
theorem dX1_forget_5 : decode cX1_forget 5 = .ok (.return_, 1) := by decide +kernel
theorem dX1_gather_0 : decode cX1_gather 0 = .ok (.aload_n 0, 1) := by decide +kernel
theorem dX1_gather_1 : decode cX1_gather 1 = .ok (.getfield 51, 3) := by decide +kernel
theorem dX1_gather_4 : decode cX1_gather 4 = .ok (.aload_n 1, 1) := by decide +kernel
theorem dX1_gather_5 : decode cX1_gather 5 = .ok (.if_acmp .ne 4, 3) := by decide +kernel
theorem dX1_gather_8 : decode cX1_gather 8 = .ok (.return_, 1) := by decide +kernel
theorem dX1_gather_9 : decode cX1_gather 9 = .ok (.aload_n 0, 1) := by decide +kernel
theorem dX1_gather_10 : decode cX1_gather 10 = .ok (.aload_n 1, 1) := by decide +kernel
theorem dX1_gather_11 : decode cX1_gather 11 = .ok (.putfield 51, 3) := by decide +kernel
theorem dX1_gather_14 : decode cX1_gather 14 = .ok (.aload_n 0, 1) := by decide +kernel
theorem dX1_gather_15 : decode cX1_gather 15 = .ok (.iconst 0, 1) := by decide +kernel
theorem dX1_gather_16 : decode cX1_gather 16 = .ok (.putfield 55, 3) := by decide +kernel
theorem dX1_gather_19 : decode cX1_gather 19 = .ok (.aload_n 0, 1) := by decide +kernel
theorem dX1_gather_20 : decode cX1_gather 20 = .ok (.aload_n 1, 1) := by decide +kernel
theorem dX1_gather_21 : decode cX1_gather 21 = .ok (.getfield 59, 3) := by decide +kernel
theorem dX1_gather_24 : decode cX1_gather 24 = .ok (.putfield 64, 3) := by decide +kernel
theorem dX1_gather_27 : decode cX1_gather 27 = .ok (.iconst 0, 1) := by decide +kernel
theorem dX1_gather_28 : decode cX1_gather 28 = .ok (.istore_n 2, 1) := by decide +kernel
theorem dX1_gather_29 : decode cX1_gather 29 = .ok (.iload_n 2, 1) := by decide +kernel
theorem dX1_gather_30 : decode cX1_gather 30 = .ok (.aload_n 0, 1) := by decide +kernel
theorem dX1_gather_31 : decode cX1_gather 31 = .ok (.getfield 64, 3) := by decide +kernel
theorem dX1_gather_34 : decode cX1_gather 34 = .ok (.if_icmp .ge 32, 3) := by decide +kernel
theorem dX1_gather_37 : decode cX1_gather 37 = .ok (.aload_n 0, 1) := by decide +kernel
theorem dX1_gather_38 : decode cX1_gather 38 = .ok (.iload_n 2, 1) := by decide +kernel
theorem dX1_gather_39 : decode cX1_gather 39 = .ok (.aload_n 1, 1) := by decide +kernel
theorem dX1_gather_40 : decode cX1_gather 40 = .ok (.getfield 65, 3) := by decide +kernel
theorem dX1_gather_43 : decode cX1_gather 43 = .ok (.iload_n 2, 1) := by decide +kernel
theorem dX1_gather_44 : decode cX1_gather 44 = .ok (.iaload, 1) := by decide +kernel
theorem dX1_gather_45 : decode cX1_gather 45 = .ok (.aload_n 1, 1) := by decide +kernel
theorem dX1_gather_46 : decode cX1_gather 46 = .ok (.getfield 68, 3) := by decide +kernel
theorem dX1_gather_49 : decode cX1_gather 49 = .ok (.iload_n 2, 1) := by decide +kernel
theorem dX1_gather_50 : decode cX1_gather 50 = .ok (.iaload, 1) := by decide +kernel
theorem dX1_gather_51 : decode cX1_gather 51 = .ok (.aload_n 1, 1) := by decide +kernel
theorem dX1_gather_52 : decode cX1_gather 52 = .ok (.getfield 71, 3) := by decide +kernel
theorem dX1_gather_55 : decode cX1_gather 55 = .ok (.iload_n 2, 1) := by decide +kernel
theorem dX1_gather_56 : decode cX1_gather 56 = .ok (.iaload, 1) := by decide +kernel
theorem dX1_gather_57 : decode cX1_gather 57 = .ok (.invokevirtual 74, 3) := by decide +kernel
theorem dX1_gather_60 : decode cX1_gather 60 = .ok (.iinc 2 1, 3) := by decide +kernel
theorem dX1_gather_63 : decode cX1_gather 63 = .ok (.goto (-34), 3) := by decide +kernel
theorem dX1_gather_66 : decode cX1_gather 66 = .ok (.return_, 1) := by decide +kernel
theorem dX1_settle_0 : decode cX1_settle 0 = .ok (.aload_n 1, 1) := by decide +kernel
theorem dX1_settle_1 : decode cX1_settle 1 = .ok (.ifnonnull 5, 3) := by decide +kernel
theorem dX1_settle_4 : decode cX1_settle 4 = .ok (.iconst (-1), 1) := by decide +kernel
theorem dX1_settle_5 : decode cX1_settle 5 = .ok (.ireturn, 1) := by decide +kernel
theorem dX1_settle_6 : decode cX1_settle 6 = .ok (.aload_n 0, 1) := by decide +kernel
theorem dX1_settle_7 : decode cX1_settle 7 = .ok (.aload_n 1, 1) := by decide +kernel
theorem dX1_settle_8 : decode cX1_settle 8 = .ok (.invokevirtual 78, 3) := by decide +kernel
theorem dX1_settle_11 : decode cX1_settle 11 = .ok (.aload_n 0, 1) := by decide +kernel
theorem dX1_settle_12 : decode cX1_settle 12 = .ok (.getfield 55, 3) := by decide +kernel
theorem dX1_settle_15 : decode cX1_settle 15 = .ok (.ifCond .eq 8, 3) := by decide +kernel
theorem dX1_settle_18 : decode cX1_settle 18 = .ok (.aload_n 0, 1) := by decide +kernel
theorem dX1_settle_19 : decode cX1_settle 19 = .ok (.getfield 82, 3) := by decide +kernel
theorem dX1_settle_22 : decode cX1_settle 22 = .ok (.ireturn, 1) := by decide +kernel
theorem dX1_settle_23 : decode cX1_settle 23 = .ok (.iconst 0, 1) := by decide +kernel
theorem dX1_settle_24 : decode cX1_settle 24 = .ok (.istore_n 2, 1) := by decide +kernel
theorem dX1_settle_25 : decode cX1_settle 25 = .ok (.iload_n 2, 1) := by decide +kernel
theorem dX1_settle_26 : decode cX1_settle 26 = .ok (.aload_n 0, 1) := by decide +kernel
theorem dX1_settle_27 : decode cX1_settle 27 = .ok (.getfield 64, 3) := by decide +kernel
theorem dX1_settle_30 : decode cX1_settle 30 = .ok (.if_icmp .ge 42, 3) := by decide +kernel
theorem dX1_settle_33 : decode cX1_settle 33 = .ok (.iconst 0, 1) := by decide +kernel
theorem dX1_settle_34 : decode cX1_settle 34 = .ok (.istore_n 3, 1) := by decide +kernel
theorem dX1_settle_35 : decode cX1_settle 35 = .ok (.iload_n 3, 1) := by decide +kernel
theorem dX1_settle_36 : decode cX1_settle 36 = .ok (.aload_n 0, 1) := by decide +kernel
theorem dX1_settle_37 : decode cX1_settle 37 = .ok (.getfield 18, 3) := by decide +kernel
theorem dX1_settle_40 : decode cX1_settle 40 = .ok (.iload_n 2, 1) := by decide +kernel
theorem dX1_settle_41 : decode cX1_settle 41 = .ok (.iaload, 1) := by decide +kernel
theorem dX1_settle_42 : decode cX1_settle 42 = .ok (.if_icmp .ge 24, 3) := by decide +kernel
theorem dX1_settle_45 : decode cX1_settle 45 = .ok (.aload_n 0, 1) := by decide +kernel
theorem dX1_settle_46 : decode cX1_settle 46 = .ok (.iload_n 2, 1) := by decide +kernel
theorem dX1_settle_47 : decode cX1_settle 47 = .ok (.iload_n 2, 1) := by decide +kernel
theorem dX1_settle_48 : decode cX1_settle 48 = .ok (.bipush 10, 2) := by decide +kernel
theorem dX1_settle_50 : decode cX1_settle 50 = .ok (.imul, 1) := by decide +kernel
theorem dX1_settle_51 : decode cX1_settle 51 = .ok (.iload_n 3, 1) := by decide +kernel
theorem dX1_settle_52 : decode cX1_settle 52 = .ok (.iadd, 1) := by decide +kernel
theorem dX1_settle_53 : decode cX1_settle 53 = .ok (.aload_n 1, 1) := by decide +kernel
theorem dX1_settle_54 : decode cX1_settle 54 = .ok (.getfield 85, 3) := by decide +kernel
theorem dX1_settle_57 : decode cX1_settle 57 = .ok (.invokevirtual 88, 3) := by decide +kernel
theorem dX1_settle_60 : decode cX1_settle 60 = .ok (.iinc 3 1, 3) := by decide +kernel
theorem dX1_settle_63 : decode cX1_settle 63 = .ok (.goto (-28), 3) := by decide +kernel
theorem dX1_settle_66 : decode cX1_settle 66 = .ok (.iinc 2 1, 3) := by decide +kernel
theorem dX1_settle_69 : decode cX1_settle 69 = .ok (.goto (-44), 3) := by decide +kernel
theorem dX1_settle_72 : decode cX1_settle 72 = .ok (.aload_n 0, 1) := by decide +kernel
theorem dX1_settle_73 : decode cX1_settle 73 = .ok (.invokevirtual 92, 3) := by decide +kernel
theorem dX1_settle_76 : decode cX1_settle 76 = .ok (.aload_n 0, 1) := by decide +kernel
theorem dX1_settle_77 : decode cX1_settle 77 = .ok (.iconst 1, 1) := by decide +kernel
theorem dX1_settle_78 : decode cX1_settle 78 = .ok (.putfield 55, 3) := by decide +kernel
theorem dX1_settle_81 : decode cX1_settle 81 = .ok (.aload_n 0, 1) := by decide +kernel
theorem dX1_settle_82 : decode cX1_settle 82 = .ok (.getfield 82, 3) := by decide +kernel
theorem dX1_settle_85 : decode cX1_settle 85 = .ok (.ireturn, 1) := by decide +kernel
theorem dX1_findSpots_0 : decode cX1_findSpots 0 = .ok (.aload_n 0, 1) := by decide +kernel
theorem dX1_findSpots_1 : decode cX1_findSpots 1 = .ok (.getfield 18, 3) := by decide +kernel
theorem dX1_findSpots_4 : decode cX1_findSpots 4 = .ok (.iload_n 1, 1) := by decide +kernel
theorem dX1_findSpots_5 : decode cX1_findSpots 5 = .ok (.iconst 0, 1) := by decide +kernel
theorem dX1_findSpots_6 : decode cX1_findSpots 6 = .ok (.iastore, 1) := by decide +kernel
theorem dX1_findSpots_7 : decode cX1_findSpots 7 = .ok (.iconst 5, 1) := by decide +kernel
theorem dX1_findSpots_8 : decode cX1_findSpots 8 = .ok (.aload_n 0, 1) := by decide +kernel
theorem dX1_findSpots_9 : decode cX1_findSpots 9 = .ok (.getfield 43, 3) := by decide +kernel
theorem dX1_findSpots_12 : decode cX1_findSpots 12 = .ok (.getfield 95, 3) := by decide +kernel
theorem dX1_findSpots_15 : decode cX1_findSpots 15 = .ok (.imul, 1) := by decide +kernel
theorem dX1_findSpots_16 : decode cX1_findSpots 16 = .ok (.istore 5, 2) := by decide +kernel
theorem dX1_findSpots_18 : decode cX1_findSpots 18 = .ok (.iconst 0, 1) := by decide +kernel
theorem dX1_findSpots_19 : decode cX1_findSpots 19 = .ok (.istore 6, 2) := by decide +kernel
theorem dX1_findSpots_21 : decode cX1_findSpots 21 = .ok (.iload 6, 2) := by decide +kernel
theorem dX1_findSpots_23 : decode cX1_findSpots 23 = .ok (.iload 5, 2) := by decide +kernel
theorem dX1_findSpots_25 : decode cX1_findSpots 25 = .ok (.if_icmp .ge 57, 3) := by decide +kernel
theorem dX1_findSpots_28 : decode cX1_findSpots 28 = .ok (.aload_n 0, 1) := by decide +kernel
theorem dX1_findSpots_29 : decode cX1_findSpots 29 = .ok (.getfield 43, 3) := by decide +kernel
theorem dX1_findSpots_32 : decode cX1_findSpots 32 = .ok (.getfield 100, 3) := by decide +kernel
theorem dX1_findSpots_35 : decode cX1_findSpots 35 = .ok (.iload 6, 2) := by decide +kernel
theorem dX1_findSpots_37 : decode cX1_findSpots 37 = .ok (.iconst 5, 1) := by decide +kernel
theorem dX1_findSpots_38 : decode cX1_findSpots 38 = .ok (.idiv, 1) := by decide +kernel
theorem dX1_findSpots_39 : decode cX1_findSpots 39 = .ok (.iaload, 1) := by decide +kernel
theorem dX1_findSpots_40 : decode cX1_findSpots 40 = .ok (.iconst 2, 1) := by decide +kernel
theorem dX1_findSpots_41 : decode cX1_findSpots 41 = .ok (.if_icmp .eq 35, 3) := by decide +kernel
theorem dX1_findSpots_44 : decode cX1_findSpots 44 = .ok (.aload_n 0, 1) := by decide +kernel
theorem dX1_findSpots_45 : decode cX1_findSpots 45 = .ok (.getfield 43, 3) := by decide +kernel
theorem dX1_findSpots_48 : decode cX1_findSpots 48 = .ok (.iload 6, 2) := by decide +kernel
theorem dX1_findSpots_50 : decode cX1_findSpots 50 = .ok (.iload_n 2, 1) := by decide +kernel
theorem dX1_findSpots_51 : decode cX1_findSpots 51 = .ok (.iload_n 3, 1) := by decide +kernel
theorem dX1_findSpots_52 : decode cX1_findSpots 52 = .ok (.invokevirtual 103, 3) := by decide +kernel
theorem dX1_findSpots_55 : decode cX1_findSpots 55 = .ok (.istore 7, 2) := by decide +kernel
theorem dX1_findSpots_57 : decode cX1_findSpots 57 = .ok (.iload 7, 2) := by decide +kernel
theorem dX1_findSpots_59 : decode cX1_findSpots 59 = .ok (.iload 4, 2) := by decide +kernel
theorem dX1_findSpots_61 : decode cX1_findSpots 61 = .ok (.iload 4, 2) := by decide +kernel
theorem dX1_findSpots_63 : decode cX1_findSpots 63 = .ok (.imul, 1) := by decide +kernel
theorem dX1_findSpots_64 : decode cX1_findSpots 64 = .ok (.if_icmp .gt 12, 3) := by decide +kernel
theorem dX1_findSpots_67 : decode cX1_findSpots 67 = .ok (.aload_n 0, 1) := by decide +kernel
theorem dX1_findSpots_68 : decode cX1_findSpots 68 = .ok (.iload_n 1, 1) := by decide +kernel
theorem dX1_findSpots_69 : decode cX1_findSpots 69 = .ok (.iload 6, 2) := by decide +kernel
theorem dX1_findSpots_71 : decode cX1_findSpots 71 = .ok (.iload 7, 2) := by decide +kernel
theorem dX1_findSpots_73 : decode cX1_findSpots 73 = .ok (.invokevirtual 107, 3) := by decide +kernel
theorem dX1_findSpots_76 : decode cX1_findSpots 76 = .ok (.iinc 6 1, 3) := by decide +kernel
theorem dX1_findSpots_79 : decode cX1_findSpots 79 = .ok (.goto (-58), 3) := by decide +kernel
theorem dX1_findSpots_82 : decode cX1_findSpots 82 = .ok (.return_, 1) := by decide +kernel
theorem dX1_addSpot_0 : decode cX1_addSpot 0 = .ok (.iload_n 1, 1) := by decide +kernel
theorem dX1_addSpot_1 : decode cX1_addSpot 1 = .ok (.bipush 10, 2) := by decide +kernel
theorem dX1_addSpot_3 : decode cX1_addSpot 3 = .ok (.imul, 1) := by decide +kernel
theorem dX1_addSpot_4 : decode cX1_addSpot 4 = .ok (.istore 4, 2) := by decide +kernel
theorem dX1_addSpot_6 : decode cX1_addSpot 6 = .ok (.aload_n 0, 1) := by decide +kernel
theorem dX1_addSpot_7 : decode cX1_addSpot 7 = .ok (.getfield 18, 3) := by decide +kernel
theorem dX1_addSpot_10 : decode cX1_addSpot 10 = .ok (.iload_n 1, 1) := by decide +kernel
theorem dX1_addSpot_11 : decode cX1_addSpot 11 = .ok (.iaload, 1) := by decide +kernel
theorem dX1_addSpot_12 : decode cX1_addSpot 12 = .ok (.bipush 10, 2) := by decide +kernel
theorem dX1_addSpot_14 : decode cX1_addSpot 14 = .ok (.if_icmp .lt 85, 3) := by decide +kernel
theorem dX1_addSpot_17 : decode cX1_addSpot 17 = .ok (.aload_n 0, 1) := by decide +kernel
theorem dX1_addSpot_18 : decode cX1_addSpot 18 = .ok (.iload 4, 2) := by decide +kernel
theorem dX1_addSpot_20 : decode cX1_addSpot 20 = .ok (.invokevirtual 111, 3) := by decide +kernel
theorem dX1_addSpot_23 : decode cX1_addSpot 23 = .ok (.istore 5, 2) := by decide +kernel
theorem dX1_addSpot_25 : decode cX1_addSpot 25 = .ok (.aload_n 0, 1) := by decide +kernel
theorem dX1_addSpot_26 : decode cX1_addSpot 26 = .ok (.getfield 28, 3) := by decide +kernel
theorem dX1_addSpot_29 : decode cX1_addSpot 29 = .ok (.iload 5, 2) := by decide +kernel
theorem dX1_addSpot_31 : decode cX1_addSpot 31 = .ok (.iaload, 1) := by decide +kernel
theorem dX1_addSpot_32 : decode cX1_addSpot 32 = .ok (.iload_n 3, 1) := by decide +kernel
theorem dX1_addSpot_33 : decode cX1_addSpot 33 = .ok (.if_icmp .gt 4, 3) := by decide +kernel
theorem dX1_addSpot_36 : decode cX1_addSpot 36 = .ok (.return_, 1) := by decide +kernel
theorem dX1_addSpot_37 : decode cX1_addSpot 37 = .ok (.iload 5, 2) := by decide +kernel
theorem dX1_addSpot_39 : decode cX1_addSpot 39 = .ok (.istore 6, 2) := by decide +kernel
theorem dX1_addSpot_41 : decode cX1_addSpot 41 = .ok (.iload 6, 2) := by decide +kernel
theorem dX1_addSpot_43 : decode cX1_addSpot 43 = .ok (.iload 4, 2) := by decide +kernel
theorem dX1_addSpot_45 : decode cX1_addSpot 45 = .ok (.bipush 10, 2) := by decide +kernel
theorem dX1_addSpot_47 : decode cX1_addSpot 47 = .ok (.iadd, 1) := by decide +kernel
theorem dX1_addSpot_48 : decode cX1_addSpot 48 = .ok (.iconst 1, 1) := by decide +kernel
theorem dX1_addSpot_49 : decode cX1_addSpot 49 = .ok (.isub, 1) := by decide +kernel
theorem dX1_addSpot_50 : decode cX1_addSpot 50 = .ok (.if_icmp .ge 41, 3) := by decide +kernel
theorem dX1_addSpot_53 : decode cX1_addSpot 53 = .ok (.aload_n 0, 1) := by decide +kernel
theorem dX1_addSpot_54 : decode cX1_addSpot 54 = .ok (.getfield 22, 3) := by decide +kernel
theorem dX1_addSpot_57 : decode cX1_addSpot 57 = .ok (.iload 6, 2) := by decide +kernel
theorem dX1_addSpot_59 : decode cX1_addSpot 59 = .ok (.aload_n 0, 1) := by decide +kernel
theorem dX1_addSpot_60 : decode cX1_addSpot 60 = .ok (.getfield 22, 3) := by decide +kernel
theorem dX1_addSpot_63 : decode cX1_addSpot 63 = .ok (.iload 6, 2) := by decide +kernel
theorem dX1_addSpot_65 : decode cX1_addSpot 65 = .ok (.iconst 1, 1) := by decide +kernel
theorem dX1_addSpot_66 : decode cX1_addSpot 66 = .ok (.iadd, 1) := by decide +kernel
theorem dX1_addSpot_67 : decode cX1_addSpot 67 = .ok (.iaload, 1) := by decide +kernel
theorem dX1_addSpot_68 : decode cX1_addSpot 68 = .ok (.iastore, 1) := by decide +kernel
theorem dX1_addSpot_69 : decode cX1_addSpot 69 = .ok (.aload_n 0, 1) := by decide +kernel
theorem dX1_addSpot_70 : decode cX1_addSpot 70 = .ok (.getfield 28, 3) := by decide +kernel
theorem dX1_addSpot_73 : decode cX1_addSpot 73 = .ok (.iload 6, 2) := by decide +kernel
theorem dX1_addSpot_75 : decode cX1_addSpot 75 = .ok (.aload_n 0, 1) := by decide +kernel
theorem dX1_addSpot_76 : decode cX1_addSpot 76 = .ok (.getfield 28, 3) := by decide +kernel
theorem dX1_addSpot_79 : decode cX1_addSpot 79 = .ok (.iload 6, 2) := by decide +kernel
theorem dX1_addSpot_81 : decode cX1_addSpot 81 = .ok (.iconst 1, 1) := by decide +kernel
theorem dX1_addSpot_82 : decode cX1_addSpot 82 = .ok (.iadd, 1) := by decide +kernel
theorem dX1_addSpot_83 : decode cX1_addSpot 83 = .ok (.iaload, 1) := by decide +kernel
theorem dX1_addSpot_84 : decode cX1_addSpot 84 = .ok (.iastore, 1) := by decide +kernel
theorem dX1_addSpot_85 : decode cX1_addSpot 85 = .ok (.iinc 6 1, 3) := by decide +kernel
theorem dX1_addSpot_88 : decode cX1_addSpot 88 = .ok (.goto (-47), 3) := by decide +kernel
theorem dX1_addSpot_91 : decode cX1_addSpot 91 = .ok (.aload_n 0, 1) := by decide +kernel
theorem dX1_addSpot_92 : decode cX1_addSpot 92 = .ok (.getfield 18, 3) := by decide +kernel
theorem dX1_addSpot_95 : decode cX1_addSpot 95 = .ok (.iload_n 1, 1) := by decide +kernel
theorem dX1_addSpot_96 : decode cX1_addSpot 96 = .ok (.bipush 9, 2) := by decide +kernel
theorem dX1_addSpot_98 : decode cX1_addSpot 98 = .ok (.iastore, 1) := by decide +kernel
theorem dX1_addSpot_99 : decode cX1_addSpot 99 = .ok (.aload_n 0, 1) := by decide +kernel
theorem dX1_addSpot_100 : decode cX1_addSpot 100 = .ok (.getfield 22, 3) := by decide +kernel
theorem dX1_addSpot_103 : decode cX1_addSpot 103 = .ok (.iload 4, 2) := by decide +kernel
theorem dX1_addSpot_105 : decode cX1_addSpot 105 = .ok (.aload_n 0, 1) := by decide +kernel
theorem dX1_addSpot_106 : decode cX1_addSpot 106 = .ok (.getfield 18, 3) := by decide +kernel
theorem dX1_addSpot_109 : decode cX1_addSpot 109 = .ok (.iload_n 1, 1) := by decide +kernel
theorem dX1_addSpot_110 : decode cX1_addSpot 110 = .ok (.iaload, 1) := by decide +kernel
theorem dX1_addSpot_111 : decode cX1_addSpot 111 = .ok (.iadd, 1) := by decide +kernel
theorem dX1_addSpot_112 : decode cX1_addSpot 112 = .ok (.iload_n 2, 1) := by decide +kernel
theorem dX1_addSpot_113 : decode cX1_addSpot 113 = .ok (.iastore, 1) := by decide +kernel
theorem dX1_addSpot_114 : decode cX1_addSpot 114 = .ok (.aload_n 0, 1) := by decide +kernel
theorem dX1_addSpot_115 : decode cX1_addSpot 115 = .ok (.getfield 28, 3) := by decide +kernel
theorem dX1_addSpot_118 : decode cX1_addSpot 118 = .ok (.iload 4, 2) := by decide +kernel
theorem dX1_addSpot_120 : decode cX1_addSpot 120 = .ok (.aload_n 0, 1) := by decide +kernel
theorem dX1_addSpot_121 : decode cX1_addSpot 121 = .ok (.getfield 18, 3) := by decide +kernel
theorem dX1_addSpot_124 : decode cX1_addSpot 124 = .ok (.iload_n 1, 1) := by decide +kernel
theorem dX1_addSpot_125 : decode cX1_addSpot 125 = .ok (.iaload, 1) := by decide +kernel
theorem dX1_addSpot_126 : decode cX1_addSpot 126 = .ok (.iadd, 1) := by decide +kernel
theorem dX1_addSpot_127 : decode cX1_addSpot 127 = .ok (.iload_n 3, 1) := by decide +kernel
theorem dX1_addSpot_128 : decode cX1_addSpot 128 = .ok (.iastore, 1) := by decide +kernel
theorem dX1_addSpot_129 : decode cX1_addSpot 129 = .ok (.aload_n 0, 1) := by decide +kernel
theorem dX1_addSpot_130 : decode cX1_addSpot 130 = .ok (.getfield 18, 3) := by decide +kernel
theorem dX1_addSpot_133 : decode cX1_addSpot 133 = .ok (.iload_n 1, 1) := by decide +kernel
theorem dX1_addSpot_134 : decode cX1_addSpot 134 = .ok (.dup2, 1) := by decide +kernel
theorem dX1_addSpot_135 : decode cX1_addSpot 135 = .ok (.iaload, 1) := by decide +kernel
theorem dX1_addSpot_136 : decode cX1_addSpot 136 = .ok (.iconst 1, 1) := by decide +kernel
theorem dX1_addSpot_137 : decode cX1_addSpot 137 = .ok (.iadd, 1) := by decide +kernel
theorem dX1_addSpot_138 : decode cX1_addSpot 138 = .ok (.iastore, 1) := by decide +kernel
theorem dX1_addSpot_139 : decode cX1_addSpot 139 = .ok (.return_, 1) := by decide +kernel
theorem dX1_worstSlot_0 : decode cX1_worstSlot 0 = .ok (.iload_n 1, 1) := by decide +kernel
theorem dX1_worstSlot_1 : decode cX1_worstSlot 1 = .ok (.istore_n 2, 1) := by decide +kernel
theorem dX1_worstSlot_2 : decode cX1_worstSlot 2 = .ok (.iload_n 1, 1) := by decide +kernel
theorem dX1_worstSlot_3 : decode cX1_worstSlot 3 = .ok (.istore_n 3, 1) := by decide +kernel
theorem dX1_worstSlot_4 : decode cX1_worstSlot 4 = .ok (.iload_n 3, 1) := by decide +kernel
theorem dX1_worstSlot_5 : decode cX1_worstSlot 5 = .ok (.iload_n 1, 1) := by decide +kernel
theorem dX1_worstSlot_6 : decode cX1_worstSlot 6 = .ok (.bipush 10, 2) := by decide +kernel
theorem dX1_worstSlot_8 : decode cX1_worstSlot 8 = .ok (.iadd, 1) := by decide +kernel
theorem dX1_worstSlot_9 : decode cX1_worstSlot 9 = .ok (.if_icmp .ge 26, 3) := by decide +kernel
theorem dX1_worstSlot_12 : decode cX1_worstSlot 12 = .ok (.aload_n 0, 1) := by decide +kernel
theorem dX1_worstSlot_13 : decode cX1_worstSlot 13 = .ok (.getfield 28, 3) := by decide +kernel
theorem dX1_worstSlot_16 : decode cX1_worstSlot 16 = .ok (.iload_n 3, 1) := by decide +kernel
theorem dX1_worstSlot_17 : decode cX1_worstSlot 17 = .ok (.iaload, 1) := by decide +kernel
theorem dX1_worstSlot_18 : decode cX1_worstSlot 18 = .ok (.aload_n 0, 1) := by decide +kernel
theorem dX1_worstSlot_19 : decode cX1_worstSlot 19 = .ok (.getfield 28, 3) := by decide +kernel
theorem dX1_worstSlot_22 : decode cX1_worstSlot 22 = .ok (.iload_n 2, 1) := by decide +kernel
theorem dX1_worstSlot_23 : decode cX1_worstSlot 23 = .ok (.iaload, 1) := by decide +kernel
theorem dX1_worstSlot_24 : decode cX1_worstSlot 24 = .ok (.if_icmp .lt 5, 3) := by decide +kernel
theorem dX1_worstSlot_27 : decode cX1_worstSlot 27 = .ok (.iload_n 3, 1) := by decide +kernel
theorem dX1_worstSlot_28 : decode cX1_worstSlot 28 = .ok (.istore_n 2, 1) := by decide +kernel
theorem dX1_worstSlot_29 : decode cX1_worstSlot 29 = .ok (.iinc 3 1, 3) := by decide +kernel
theorem dX1_worstSlot_32 : decode cX1_worstSlot 32 = .ok (.goto (-28), 3) := by decide +kernel
theorem dX1_worstSlot_35 : decode cX1_worstSlot 35 = .ok (.iload_n 2, 1) := by decide +kernel
theorem dX1_worstSlot_36 : decode cX1_worstSlot 36 = .ok (.ireturn, 1) := by decide +kernel
theorem dX1_findRowTo_0 : decode cX1_findRowTo 0 = .ok (.aload_n 0, 1) := by decide +kernel
theorem dX1_findRowTo_1 : decode cX1_findRowTo 1 = .ok (.getfield 15, 3) := by decide +kernel
theorem dX1_findRowTo_4 : decode cX1_findRowTo 4 = .ok (.iload_n 1, 1) := by decide +kernel
theorem dX1_findRowTo_5 : decode cX1_findRowTo 5 = .ok (.imul, 1) := by decide +kernel
theorem dX1_findRowTo_6 : decode cX1_findRowTo 6 = .ok (.istore 4, 2) := by decide +kernel
theorem dX1_findRowTo_8 : decode cX1_findRowTo 8 = .ok (.iconst (-1), 1) := by decide +kernel
theorem dX1_findRowTo_9 : decode cX1_findRowTo 9 = .ok (.istore 5, 2) := by decide +kernel
theorem dX1_findRowTo_11 : decode cX1_findRowTo 11 = .ok (.iload_n 1, 1) := by decide +kernel
theorem dX1_findRowTo_12 : decode cX1_findRowTo 12 = .ok (.iconst 1, 1) := by decide +kernel
theorem dX1_findRowTo_13 : decode cX1_findRowTo 13 = .ok (.isub, 1) := by decide +kernel
theorem dX1_findRowTo_14 : decode cX1_findRowTo 14 = .ok (.istore 6, 2) := by decide +kernel
theorem dX1_findRowTo_16 : decode cX1_findRowTo 16 = .ok (.iload 6, 2) := by decide +kernel
theorem dX1_findRowTo_18 : decode cX1_findRowTo 18 = .ok (.ifCond .lt 159, 3) := by decide +kernel
theorem dX1_findRowTo_21 : decode cX1_findRowTo 21 = .ok (.aload_n 0, 1) := by decide +kernel
theorem dX1_findRowTo_22 : decode cX1_findRowTo 22 = .ok (.getfield 15, 3) := by decide +kernel
theorem dX1_findRowTo_25 : decode cX1_findRowTo 25 = .ok (.iload_n 1, 1) := by decide +kernel
theorem dX1_findRowTo_26 : decode cX1_findRowTo 26 = .ok (.iload 6, 2) := by decide +kernel
theorem dX1_findRowTo_28 : decode cX1_findRowTo 28 = .ok (.isub, 1) := by decide +kernel
theorem dX1_findRowTo_29 : decode cX1_findRowTo 29 = .ok (.iconst 1, 1) := by decide +kernel
theorem dX1_findRowTo_30 : decode cX1_findRowTo 30 = .ok (.isub, 1) := by decide +kernel
theorem dX1_findRowTo_31 : decode cX1_findRowTo 31 = .ok (.imul, 1) := by decide +kernel
theorem dX1_findRowTo_32 : decode cX1_findRowTo 32 = .ok (.istore 7, 2) := by decide +kernel
theorem dX1_findRowTo_34 : decode cX1_findRowTo 34 = .ok (.aload_n 0, 1) := by decide +kernel
theorem dX1_findRowTo_35 : decode cX1_findRowTo 35 = .ok (.aload_n 3, 1) := by decide +kernel
theorem dX1_findRowTo_36 : decode cX1_findRowTo 36 = .ok (.iload_n 1, 1) := by decide +kernel
theorem dX1_findRowTo_37 : decode cX1_findRowTo 37 = .ok (.iaload, 1) := by decide +kernel
theorem dX1_findRowTo_38 : decode cX1_findRowTo 38 = .ok (.aload_n 3, 1) := by decide +kernel
theorem dX1_findRowTo_39 : decode cX1_findRowTo 39 = .ok (.iload 6, 2) := by decide +kernel
theorem dX1_findRowTo_41 : decode cX1_findRowTo 41 = .ok (.iaload, 1) := by decide +kernel
theorem dX1_findRowTo_42 : decode cX1_findRowTo 42 = .ok (.isub, 1) := by decide +kernel
theorem dX1_findRowTo_43 : decode cX1_findRowTo 43 = .ok (.invokevirtual 115, 3) := by decide +kernel
theorem dX1_findRowTo_46 : decode cX1_findRowTo 46 = .ok (.istore 8, 2) := by decide +kernel
theorem dX1_findRowTo_48 : decode cX1_findRowTo 48 = .ok (.iconst 0, 1) := by decide +kernel
theorem dX1_findRowTo_49 : decode cX1_findRowTo 49 = .ok (.istore 9, 2) := by decide +kernel
theorem dX1_findRowTo_51 : decode cX1_findRowTo 51 = .ok (.iload 9, 2) := by decide +kernel
theorem dX1_findRowTo_53 : decode cX1_findRowTo 53 = .ok (.aload_n 0, 1) := by decide +kernel
theorem dX1_findRowTo_54 : decode cX1_findRowTo 54 = .ok (.getfield 18, 3) := by decide +kernel
theorem dX1_findRowTo_57 : decode cX1_findRowTo 57 = .ok (.iload 6, 2) := by decide +kernel
theorem dX1_findRowTo_59 : decode cX1_findRowTo 59 = .ok (.iaload, 1) := by decide +kernel
theorem dX1_findRowTo_60 : decode cX1_findRowTo 60 = .ok (.if_icmp .ge 111, 3) := by decide +kernel
theorem dX1_findRowTo_63 : decode cX1_findRowTo 63 = .ok (.iload 6, 2) := by decide +kernel
theorem dX1_findRowTo_65 : decode cX1_findRowTo 65 = .ok (.bipush 10, 2) := by decide +kernel
theorem dX1_findRowTo_67 : decode cX1_findRowTo 67 = .ok (.imul, 1) := by decide +kernel
theorem dX1_findRowTo_68 : decode cX1_findRowTo 68 = .ok (.iload 9, 2) := by decide +kernel
theorem dX1_findRowTo_70 : decode cX1_findRowTo 70 = .ok (.iadd, 1) := by decide +kernel
theorem dX1_findRowTo_71 : decode cX1_findRowTo 71 = .ok (.istore 10, 2) := by decide +kernel
theorem dX1_findRowTo_73 : decode cX1_findRowTo 73 = .ok (.aload_n 0, 1) := by decide +kernel
theorem dX1_findRowTo_74 : decode cX1_findRowTo 74 = .ok (.getfield 31, 3) := by decide +kernel
theorem dX1_findRowTo_77 : decode cX1_findRowTo 77 = .ok (.iload 10, 2) := by decide +kernel
theorem dX1_findRowTo_79 : decode cX1_findRowTo 79 = .ok (.iaload, 1) := by decide +kernel
theorem dX1_findRowTo_80 : decode cX1_findRowTo 80 = .ok (.iload 7, 2) := by decide +kernel
theorem dX1_findRowTo_82 : decode cX1_findRowTo 82 = .ok (.iadd, 1) := by decide +kernel
theorem dX1_findRowTo_83 : decode cX1_findRowTo 83 = .ok (.istore 11, 2) := by decide +kernel
theorem dX1_findRowTo_85 : decode cX1_findRowTo 85 = .ok (.iload 11, 2) := by decide +kernel
theorem dX1_findRowTo_87 : decode cX1_findRowTo 87 = .ok (.iload 4, 2) := by decide +kernel
theorem dX1_findRowTo_89 : decode cX1_findRowTo 89 = .ok (.if_icmp .le 8, 3) := by decide +kernel
theorem dX1_findRowTo_92 : decode cX1_findRowTo 92 = .ok (.bipush (-4), 2) := by decide +kernel
theorem dX1_findRowTo_94 : decode cX1_findRowTo 94 = .ok (.goto 22, 3) := by decide +kernel
theorem dX1_findRowTo_97 : decode cX1_findRowTo 97 = .ok (.aload_n 0, 1) := by decide +kernel
theorem dX1_findRowTo_98 : decode cX1_findRowTo 98 = .ok (.aload_n 0, 1) := by decide +kernel
theorem dX1_findRowTo_99 : decode cX1_findRowTo 99 = .ok (.getfield 22, 3) := by decide +kernel
theorem dX1_findRowTo_102 : decode cX1_findRowTo 102 = .ok (.iload 10, 2) := by decide +kernel
theorem dX1_findRowTo_104 : decode cX1_findRowTo 104 = .ok (.iaload, 1) := by decide +kernel
theorem dX1_findRowTo_105 : decode cX1_findRowTo 105 = .ok (.aload_n 0, 1) := by decide +kernel
theorem dX1_findRowTo_106 : decode cX1_findRowTo 106 = .ok (.getfield 22, 3) := by decide +kernel
theorem dX1_findRowTo_109 : decode cX1_findRowTo 109 = .ok (.iload_n 2, 1) := by decide +kernel
theorem dX1_findRowTo_110 : decode cX1_findRowTo 110 = .ok (.iaload, 1) := by decide +kernel
theorem dX1_findRowTo_111 : decode cX1_findRowTo 111 = .ok (.iload 8, 2) := by decide +kernel
theorem dX1_findRowTo_113 : decode cX1_findRowTo 113 = .ok (.invokevirtual 118, 3) := by decide +kernel
theorem dX1_findRowTo_116 : decode cX1_findRowTo 116 = .ok (.istore 12, 2) := by decide +kernel
theorem dX1_findRowTo_118 : decode cX1_findRowTo 118 = .ok (.iload 12, 2) := by decide +kernel
theorem dX1_findRowTo_120 : decode cX1_findRowTo 120 = .ok (.ifCond .lt 45, 3) := by decide +kernel
theorem dX1_findRowTo_123 : decode cX1_findRowTo 123 = .ok (.iload 11, 2) := by decide +kernel
theorem dX1_findRowTo_125 : decode cX1_findRowTo 125 = .ok (.iload 12, 2) := by decide +kernel
theorem dX1_findRowTo_127 : decode cX1_findRowTo 127 = .ok (.iconst 4, 1) := by decide +kernel
theorem dX1_findRowTo_128 : decode cX1_findRowTo 128 = .ok (.idiv, 1) := by decide +kernel
theorem dX1_findRowTo_129 : decode cX1_findRowTo 129 = .ok (.iadd, 1) := by decide +kernel
theorem dX1_findRowTo_130 : decode cX1_findRowTo 130 = .ok (.istore 11, 2) := by decide +kernel
theorem dX1_findRowTo_132 : decode cX1_findRowTo 132 = .ok (.iload 11, 2) := by decide +kernel
theorem dX1_findRowTo_134 : decode cX1_findRowTo 134 = .ok (.iload 4, 2) := by decide +kernel
theorem dX1_findRowTo_136 : decode cX1_findRowTo 136 = .ok (.if_icmp .lt 21, 3) := by decide +kernel
theorem dX1_findRowTo_139 : decode cX1_findRowTo 139 = .ok (.iload 11, 2) := by decide +kernel
theorem dX1_findRowTo_141 : decode cX1_findRowTo 141 = .ok (.iload 4, 2) := by decide +kernel
theorem dX1_findRowTo_143 : decode cX1_findRowTo 143 = .ok (.if_icmp .ne 22, 3) := by decide +kernel
theorem dX1_findRowTo_146 : decode cX1_findRowTo 146 = .ok (.aload_n 0, 1) := by decide +kernel
theorem dX1_findRowTo_147 : decode cX1_findRowTo 147 = .ok (.iload 10, 2) := by decide +kernel
theorem dX1_findRowTo_149 : decode cX1_findRowTo 149 = .ok (.iload 5, 2) := by decide +kernel
theorem dX1_findRowTo_151 : decode cX1_findRowTo 151 = .ok (.invokevirtual 121, 3) := by decide +kernel
theorem dX1_findRowTo_154 : decode cX1_findRowTo 154 = .ok (.ifCond .eq 11, 3) := by decide +kernel
theorem dX1_findRowTo_157 : decode cX1_findRowTo 157 = .ok (.iload 11, 2) := by decide +kernel
theorem dX1_findRowTo_159 : decode cX1_findRowTo 159 = .ok (.istore 4, 2) := by decide +kernel
theorem dX1_findRowTo_161 : decode cX1_findRowTo 161 = .ok (.iload 10, 2) := by decide +kernel
theorem dX1_findRowTo_163 : decode cX1_findRowTo 163 = .ok (.istore 5, 2) := by decide +kernel
theorem dX1_findRowTo_165 : decode cX1_findRowTo 165 = .ok (.iinc 9 1, 3) := by decide +kernel
theorem dX1_findRowTo_168 : decode cX1_findRowTo 168 = .ok (.goto (-117), 3) := by decide +kernel
theorem dX1_findRowTo_171 : decode cX1_findRowTo 171 = .ok (.iinc 6 (-1), 3) := by decide +kernel
theorem dX1_findRowTo_174 : decode cX1_findRowTo 174 = .ok (.goto (-158), 3) := by decide +kernel
theorem dX1_findRowTo_177 : decode cX1_findRowTo 177 = .ok (.aload_n 0, 1) := by decide +kernel
theorem dX1_findRowTo_178 : decode cX1_findRowTo 178 = .ok (.getfield 31, 3) := by decide +kernel
theorem dX1_findRowTo_181 : decode cX1_findRowTo 181 = .ok (.iload_n 2, 1) := by decide +kernel
theorem dX1_findRowTo_182 : decode cX1_findRowTo 182 = .ok (.iload 4, 2) := by decide +kernel
theorem dX1_findRowTo_184 : decode cX1_findRowTo 184 = .ok (.aload_n 0, 1) := by decide +kernel
theorem dX1_findRowTo_185 : decode cX1_findRowTo 185 = .ok (.getfield 28, 3) := by decide +kernel
theorem dX1_findRowTo_188 : decode cX1_findRowTo 188 = .ok (.iload_n 2, 1) := by decide +kernel
theorem dX1_findRowTo_189 : decode cX1_findRowTo 189 = .ok (.iaload, 1) := by decide +kernel
theorem dX1_findRowTo_190 : decode cX1_findRowTo 190 = .ok (.iadd, 1) := by decide +kernel
theorem dX1_findRowTo_191 : decode cX1_findRowTo 191 = .ok (.iastore, 1) := by decide +kernel
theorem dX1_findRowTo_192 : decode cX1_findRowTo 192 = .ok (.aload_n 0, 1) := by decide +kernel
theorem dX1_findRowTo_193 : decode cX1_findRowTo 193 = .ok (.getfield 34, 3) := by decide +kernel
theorem dX1_findRowTo_196 : decode cX1_findRowTo 196 = .ok (.iload_n 2, 1) := by decide +kernel
theorem dX1_findRowTo_197 : decode cX1_findRowTo 197 = .ok (.iload 5, 2) := by decide +kernel
theorem dX1_findRowTo_199 : decode cX1_findRowTo 199 = .ok (.iastore, 1) := by decide +kernel
theorem dX1_findRowTo_200 : decode cX1_findRowTo 200 = .ok (.return_, 1) := by decide +kernel
theorem dX1_longestLeg_0 : decode cX1_longestLeg 0 = .ok (.aload_n 0, 1) := by decide +kernel
theorem dX1_longestLeg_1 : decode cX1_longestLeg 1 = .ok (.getfield 9, 3) := by decide +kernel
theorem dX1_longestLeg_4 : decode cX1_longestLeg 4 = .ok (.iconst 4, 1) := by decide +kernel
theorem dX1_longestLeg_5 : decode cX1_longestLeg 5 = .ok (.imul, 1) := by decide +kernel
theorem dX1_longestLeg_6 : decode cX1_longestLeg 6 = .ok (.iload_n 1, 1) := by decide +kernel
theorem dX1_longestLeg_7 : decode cX1_longestLeg 7 = .ok (.imul, 1) := by decide +kernel
theorem dX1_longestLeg_8 : decode cX1_longestLeg 8 = .ok (.ireturn, 1) := by decide +kernel
theorem dX1_legLength_0 : decode cX1_legLength 0 = .ok (.aload_n 0, 1) := by decide +kernel
theorem dX1_legLength_1 : decode cX1_legLength 1 = .ok (.getfield 47, 3) := by decide +kernel
theorem dX1_legLength_4 : decode cX1_legLength 4 = .ok (.iload_n 1, 1) := by decide +kernel
theorem dX1_legLength_5 : decode cX1_legLength 5 = .ok (.iload_n 2, 1) := by decide +kernel
theorem dX1_legLength_6 : decode cX1_legLength 6 = .ok (.invokevirtual 125, 3) := by decide +kernel
theorem dX1_legLength_9 : decode cX1_legLength 9 = .ok (.istore 4, 2) := by decide +kernel
theorem dX1_legLength_11 : decode cX1_legLength 11 = .ok (.iload 4, 2) := by decide +kernel
theorem dX1_legLength_13 : decode cX1_legLength 13 = .ok (.ldc 131, 2) := by decide +kernel
theorem dX1_legLength_15 : decode cX1_legLength 15 = .ok (.if_icmp .eq 13, 3) := by decide +kernel
theorem dX1_legLength_18 : decode cX1_legLength 18 = .ok (.iload 4, 2) := by decide +kernel
theorem dX1_legLength_20 : decode cX1_legLength 20 = .ok (.sipush 10000, 3) := by decide +kernel
theorem dX1_legLength_23 : decode cX1_legLength 23 = .ok (.idiv, 1) := by decide +kernel
theorem dX1_legLength_24 : decode cX1_legLength 24 = .ok (.iload_n 3, 1) := by decide +kernel
theorem dX1_legLength_25 : decode cX1_legLength 25 = .ok (.if_icmp .le 8, 3) := by decide +kernel
theorem dX1_legLength_28 : decode cX1_legLength 28 = .ok (.bipush (-4), 2) := by decide +kernel
theorem dX1_legLength_30 : decode cX1_legLength 30 = .ok (.goto 9, 3) := by decide +kernel
theorem dX1_legLength_33 : decode cX1_legLength 33 = .ok (.iload 4, 2) := by decide +kernel
theorem dX1_legLength_35 : decode cX1_legLength 35 = .ok (.sipush 10000, 3) := by decide +kernel
theorem dX1_legLength_38 : decode cX1_legLength 38 = .ok (.idiv, 1) := by decide +kernel
theorem dX1_legLength_39 : decode cX1_legLength 39 = .ok (.ireturn, 1) := by decide +kernel
theorem dX1_chooseLeast_0 : decode cX1_chooseLeast 0 = .ok (.iconst (-1), 1) := by decide +kernel
theorem dX1_chooseLeast_1 : decode cX1_chooseLeast 1 = .ok (.istore_n 1, 1) := by decide +kernel
theorem dX1_chooseLeast_2 : decode cX1_chooseLeast 2 = .ok (.aload_n 0, 1) := by decide +kernel
theorem dX1_chooseLeast_3 : decode cX1_chooseLeast 3 = .ok (.aload_n 0, 1) := by decide +kernel
theorem dX1_chooseLeast_4 : decode cX1_chooseLeast 4 = .ok (.iconst (-1), 1) := by decide +kernel
theorem dX1_chooseLeast_5 : decode cX1_chooseLeast 5 = .ok (.invokevirtual 132, 3) := by decide +kernel
theorem dX1_chooseLeast_8 : decode cX1_chooseLeast 8 = .ok (.putfield 82, 3) := by decide +kernel
theorem dX1_chooseLeast_11 : decode cX1_chooseLeast 11 = .ok (.iconst 0, 1) := by decide +kernel
theorem dX1_chooseLeast_12 : decode cX1_chooseLeast 12 = .ok (.istore_n 2, 1) := by decide +kernel
theorem dX1_chooseLeast_13 : decode cX1_chooseLeast 13 = .ok (.iload_n 2, 1) := by decide +kernel
theorem dX1_chooseLeast_14 : decode cX1_chooseLeast 14 = .ok (.aload_n 0, 1) := by decide +kernel
theorem dX1_chooseLeast_15 : decode cX1_chooseLeast 15 = .ok (.getfield 64, 3) := by decide +kernel
theorem dX1_chooseLeast_18 : decode cX1_chooseLeast 18 = .ok (.if_icmp .ge 80, 3) := by decide +kernel
theorem dX1_chooseLeast_21 : decode cX1_chooseLeast 21 = .ok (.iconst 0, 1) := by decide +kernel
theorem dX1_chooseLeast_22 : decode cX1_chooseLeast 22 = .ok (.istore_n 3, 1) := by decide +kernel
theorem dX1_chooseLeast_23 : decode cX1_chooseLeast 23 = .ok (.iload_n 3, 1) := by decide +kernel
theorem dX1_chooseLeast_24 : decode cX1_chooseLeast 24 = .ok (.aload_n 0, 1) := by decide +kernel
theorem dX1_chooseLeast_25 : decode cX1_chooseLeast 25 = .ok (.getfield 18, 3) := by decide +kernel
theorem dX1_chooseLeast_28 : decode cX1_chooseLeast 28 = .ok (.iload_n 2, 1) := by decide +kernel
theorem dX1_chooseLeast_29 : decode cX1_chooseLeast 29 = .ok (.iaload, 1) := by decide +kernel
theorem dX1_chooseLeast_30 : decode cX1_chooseLeast 30 = .ok (.if_icmp .ge 62, 3) := by decide +kernel
theorem dX1_chooseLeast_33 : decode cX1_chooseLeast 33 = .ok (.iload_n 2, 1) := by decide +kernel
theorem dX1_chooseLeast_34 : decode cX1_chooseLeast 34 = .ok (.bipush 10, 2) := by decide +kernel
theorem dX1_chooseLeast_36 : decode cX1_chooseLeast 36 = .ok (.imul, 1) := by decide +kernel
theorem dX1_chooseLeast_37 : decode cX1_chooseLeast 37 = .ok (.iload_n 3, 1) := by decide +kernel
theorem dX1_chooseLeast_38 : decode cX1_chooseLeast 38 = .ok (.iadd, 1) := by decide +kernel
theorem dX1_chooseLeast_39 : decode cX1_chooseLeast 39 = .ok (.istore 4, 2) := by decide +kernel
theorem dX1_chooseLeast_41 : decode cX1_chooseLeast 41 = .ok (.aload_n 0, 1) := by decide +kernel
theorem dX1_chooseLeast_42 : decode cX1_chooseLeast 42 = .ok (.iload 4, 2) := by decide +kernel
theorem dX1_chooseLeast_44 : decode cX1_chooseLeast 44 = .ok (.invokevirtual 132, 3) := by decide +kernel
theorem dX1_chooseLeast_47 : decode cX1_chooseLeast 47 = .ok (.istore 5, 2) := by decide +kernel
theorem dX1_chooseLeast_49 : decode cX1_chooseLeast 49 = .ok (.iload 5, 2) := by decide +kernel
theorem dX1_chooseLeast_51 : decode cX1_chooseLeast 51 = .ok (.aload_n 0, 1) := by decide +kernel
theorem dX1_chooseLeast_52 : decode cX1_chooseLeast 52 = .ok (.getfield 82, 3) := by decide +kernel
theorem dX1_chooseLeast_55 : decode cX1_chooseLeast 55 = .ok (.if_icmp .lt 22, 3) := by decide +kernel
theorem dX1_chooseLeast_58 : decode cX1_chooseLeast 58 = .ok (.iload 5, 2) := by decide +kernel
theorem dX1_chooseLeast_60 : decode cX1_chooseLeast 60 = .ok (.aload_n 0, 1) := by decide +kernel
theorem dX1_chooseLeast_61 : decode cX1_chooseLeast 61 = .ok (.getfield 82, 3) := by decide +kernel
theorem dX1_chooseLeast_64 : decode cX1_chooseLeast 64 = .ok (.if_icmp .ne 22, 3) := by decide +kernel
theorem dX1_chooseLeast_67 : decode cX1_chooseLeast 67 = .ok (.aload_n 0, 1) := by decide +kernel
theorem dX1_chooseLeast_68 : decode cX1_chooseLeast 68 = .ok (.iload 4, 2) := by decide +kernel
theorem dX1_chooseLeast_70 : decode cX1_chooseLeast 70 = .ok (.iload_n 1, 1) := by decide +kernel
theorem dX1_chooseLeast_71 : decode cX1_chooseLeast 71 = .ok (.invokevirtual 121, 3) := by decide +kernel
theorem dX1_chooseLeast_74 : decode cX1_chooseLeast 74 = .ok (.ifCond .eq 12, 3) := by decide +kernel
theorem dX1_chooseLeast_77 : decode cX1_chooseLeast 77 = .ok (.aload_n 0, 1) := by decide +kernel
theorem dX1_chooseLeast_78 : decode cX1_chooseLeast 78 = .ok (.iload 5, 2) := by decide +kernel
theorem dX1_chooseLeast_80 : decode cX1_chooseLeast 80 = .ok (.putfield 82, 3) := by decide +kernel
theorem dX1_chooseLeast_83 : decode cX1_chooseLeast 83 = .ok (.iload 4, 2) := by decide +kernel
theorem dX1_chooseLeast_85 : decode cX1_chooseLeast 85 = .ok (.istore_n 1, 1) := by decide +kernel
theorem dX1_chooseLeast_86 : decode cX1_chooseLeast 86 = .ok (.iinc 3 1, 3) := by decide +kernel
theorem dX1_chooseLeast_89 : decode cX1_chooseLeast 89 = .ok (.goto (-66), 3) := by decide +kernel
theorem dX1_chooseLeast_92 : decode cX1_chooseLeast 92 = .ok (.iinc 2 1, 3) := by decide +kernel
theorem dX1_chooseLeast_95 : decode cX1_chooseLeast 95 = .ok (.goto (-82), 3) := by decide +kernel
theorem dX1_chooseLeast_98 : decode cX1_chooseLeast 98 = .ok (.aload_n 0, 1) := by decide +kernel
theorem dX1_chooseLeast_99 : decode cX1_chooseLeast 99 = .ok (.iload_n 1, 1) := by decide +kernel
theorem dX1_chooseLeast_100 : decode cX1_chooseLeast 100 = .ok (.aload_n 0, 1) := by decide +kernel
theorem dX1_chooseLeast_101 : decode cX1_chooseLeast 101 = .ok (.getfield 25, 3) := by decide +kernel
theorem dX1_chooseLeast_104 : decode cX1_chooseLeast 104 = .ok (.invokevirtual 135, 3) := by decide +kernel
theorem dX1_chooseLeast_107 : decode cX1_chooseLeast 107 = .ok (.return_, 1) := by decide +kernel
theorem dX1_costOfEnd_0 : decode cX1_costOfEnd 0 = .ok (.iload_n 1, 1) := by decide +kernel
theorem dX1_costOfEnd_1 : decode cX1_costOfEnd 1 = .ok (.iconst (-1), 1) := by decide +kernel
theorem dX1_costOfEnd_2 : decode cX1_costOfEnd 2 = .ok (.if_icmp .ne 15, 3) := by decide +kernel
theorem dX1_costOfEnd_5 : decode cX1_costOfEnd 5 = .ok (.aload_n 0, 1) := by decide +kernel
theorem dX1_costOfEnd_6 : decode cX1_costOfEnd 6 = .ok (.getfield 15, 3) := by decide +kernel
theorem dX1_costOfEnd_9 : decode cX1_costOfEnd 9 = .ok (.aload_n 0, 1) := by decide +kernel
theorem dX1_costOfEnd_10 : decode cX1_costOfEnd 10 = .ok (.getfield 64, 3) := by decide +kernel
theorem dX1_costOfEnd_13 : decode cX1_costOfEnd 13 = .ok (.imul, 1) := by decide +kernel
theorem dX1_costOfEnd_14 : decode cX1_costOfEnd 14 = .ok (.goto 26, 3) := by decide +kernel
theorem dX1_costOfEnd_17 : decode cX1_costOfEnd 17 = .ok (.aload_n 0, 1) := by decide +kernel
theorem dX1_costOfEnd_18 : decode cX1_costOfEnd 18 = .ok (.getfield 31, 3) := by decide +kernel
theorem dX1_costOfEnd_21 : decode cX1_costOfEnd 21 = .ok (.iload_n 1, 1) := by decide +kernel
theorem dX1_costOfEnd_22 : decode cX1_costOfEnd 22 = .ok (.iaload, 1) := by decide +kernel
theorem dX1_costOfEnd_23 : decode cX1_costOfEnd 23 = .ok (.aload_n 0, 1) := by decide +kernel
theorem dX1_costOfEnd_24 : decode cX1_costOfEnd 24 = .ok (.getfield 15, 3) := by decide +kernel
theorem dX1_costOfEnd_27 : decode cX1_costOfEnd 27 = .ok (.aload_n 0, 1) := by decide +kernel
theorem dX1_costOfEnd_28 : decode cX1_costOfEnd 28 = .ok (.getfield 64, 3) := by decide +kernel
theorem dX1_costOfEnd_31 : decode cX1_costOfEnd 31 = .ok (.iconst 1, 1) := by decide +kernel
theorem dX1_costOfEnd_32 : decode cX1_costOfEnd 32 = .ok (.isub, 1) := by decide +kernel
theorem dX1_costOfEnd_33 : decode cX1_costOfEnd 33 = .ok (.iload_n 1, 1) := by decide +kernel
theorem dX1_costOfEnd_34 : decode cX1_costOfEnd 34 = .ok (.bipush 10, 2) := by decide +kernel
theorem dX1_costOfEnd_36 : decode cX1_costOfEnd 36 = .ok (.idiv, 1) := by decide +kernel
theorem dX1_costOfEnd_37 : decode cX1_costOfEnd 37 = .ok (.isub, 1) := by decide +kernel
theorem dX1_costOfEnd_38 : decode cX1_costOfEnd 38 = .ok (.imul, 1) := by decide +kernel
theorem dX1_costOfEnd_39 : decode cX1_costOfEnd 39 = .ok (.iadd, 1) := by decide +kernel
theorem dX1_costOfEnd_40 : decode cX1_costOfEnd 40 = .ok (.ireturn, 1) := by decide +kernel
theorem dX1_writeRow_0 : decode cX1_writeRow 0 = .ok (.iconst 0, 1) := by decide +kernel
theorem dX1_writeRow_1 : decode cX1_writeRow 1 = .ok (.istore_n 3, 1) := by decide +kernel
theorem dX1_writeRow_2 : decode cX1_writeRow 2 = .ok (.iload_n 3, 1) := by decide +kernel
theorem dX1_writeRow_3 : decode cX1_writeRow 3 = .ok (.aload_n 0, 1) := by decide +kernel
theorem dX1_writeRow_4 : decode cX1_writeRow 4 = .ok (.getfield 64, 3) := by decide +kernel
theorem dX1_writeRow_7 : decode cX1_writeRow 7 = .ok (.if_icmp .ge 14, 3) := by decide +kernel
theorem dX1_writeRow_10 : decode cX1_writeRow 10 = .ok (.aload_n 2, 1) := by decide +kernel
theorem dX1_writeRow_11 : decode cX1_writeRow 11 = .ok (.iload_n 3, 1) := by decide +kernel
theorem dX1_writeRow_12 : decode cX1_writeRow 12 = .ok (.bipush (-5), 2) := by decide +kernel
theorem dX1_writeRow_14 : decode cX1_writeRow 14 = .ok (.iastore, 1) := by decide +kernel
theorem dX1_writeRow_15 : decode cX1_writeRow 15 = .ok (.iinc 3 1, 3) := by decide +kernel
theorem dX1_writeRow_18 : decode cX1_writeRow 18 = .ok (.goto (-16), 3) := by decide +kernel
theorem dX1_writeRow_21 : decode cX1_writeRow 21 = .ok (.iload_n 1, 1) := by decide +kernel
theorem dX1_writeRow_22 : decode cX1_writeRow 22 = .ok (.istore_n 3, 1) := by decide +kernel
theorem dX1_writeRow_23 : decode cX1_writeRow 23 = .ok (.iconst 0, 1) := by decide +kernel
theorem dX1_writeRow_24 : decode cX1_writeRow 24 = .ok (.istore 4, 2) := by decide +kernel
theorem dX1_writeRow_26 : decode cX1_writeRow 26 = .ok (.iload 4, 2) := by decide +kernel
theorem dX1_writeRow_28 : decode cX1_writeRow 28 = .ok (.aload_n 0, 1) := by decide +kernel
theorem dX1_writeRow_29 : decode cX1_writeRow 29 = .ok (.getfield 64, 3) := by decide +kernel
theorem dX1_writeRow_32 : decode cX1_writeRow 32 = .ok (.if_icmp .ge 33, 3) := by decide +kernel
theorem dX1_writeRow_35 : decode cX1_writeRow 35 = .ok (.iload_n 3, 1) := by decide +kernel
theorem dX1_writeRow_36 : decode cX1_writeRow 36 = .ok (.iconst (-1), 1) := by decide +kernel
theorem dX1_writeRow_37 : decode cX1_writeRow 37 = .ok (.if_icmp .eq 28, 3) := by decide +kernel
theorem dX1_writeRow_40 : decode cX1_writeRow 40 = .ok (.aload_n 2, 1) := by decide +kernel
theorem dX1_writeRow_41 : decode cX1_writeRow 41 = .ok (.iload_n 3, 1) := by decide +kernel
theorem dX1_writeRow_42 : decode cX1_writeRow 42 = .ok (.bipush 10, 2) := by decide +kernel
theorem dX1_writeRow_44 : decode cX1_writeRow 44 = .ok (.idiv, 1) := by decide +kernel
theorem dX1_writeRow_45 : decode cX1_writeRow 45 = .ok (.aload_n 0, 1) := by decide +kernel
theorem dX1_writeRow_46 : decode cX1_writeRow 46 = .ok (.getfield 22, 3) := by decide +kernel
theorem dX1_writeRow_49 : decode cX1_writeRow 49 = .ok (.iload_n 3, 1) := by decide +kernel
theorem dX1_writeRow_50 : decode cX1_writeRow 50 = .ok (.iaload, 1) := by decide +kernel
theorem dX1_writeRow_51 : decode cX1_writeRow 51 = .ok (.iastore, 1) := by decide +kernel
theorem dX1_writeRow_52 : decode cX1_writeRow 52 = .ok (.aload_n 0, 1) := by decide +kernel
theorem dX1_writeRow_53 : decode cX1_writeRow 53 = .ok (.getfield 34, 3) := by decide +kernel
theorem dX1_writeRow_56 : decode cX1_writeRow 56 = .ok (.iload_n 3, 1) := by decide +kernel
theorem dX1_writeRow_57 : decode cX1_writeRow 57 = .ok (.iaload, 1) := by decide +kernel
theorem dX1_writeRow_58 : decode cX1_writeRow 58 = .ok (.istore_n 3, 1) := by decide +kernel
theorem dX1_writeRow_59 : decode cX1_writeRow 59 = .ok (.iinc 4 1, 3) := by decide +kernel
theorem dX1_writeRow_62 : decode cX1_writeRow 62 = .ok (.goto (-36), 3) := by decide +kernel
theorem dX1_writeRow_65 : decode cX1_writeRow 65 = .ok (.return_, 1) := by decide +kernel
theorem dX1_isRowFirst_0 : decode cX1_isRowFirst 0 = .ok (.aload_n 0, 1) := by decide +kernel
theorem dX1_isRowFirst_1 : decode cX1_isRowFirst 1 = .ok (.iload_n 1, 1) := by decide +kernel
theorem dX1_isRowFirst_2 : decode cX1_isRowFirst 2 = .ok (.aload_n 0, 1) := by decide +kernel
theorem dX1_isRowFirst_3 : decode cX1_isRowFirst 3 = .ok (.getfield 37, 3) := by decide +kernel
theorem dX1_isRowFirst_6 : decode cX1_isRowFirst 6 = .ok (.invokevirtual 135, 3) := by decide +kernel
theorem dX1_isRowFirst_9 : decode cX1_isRowFirst 9 = .ok (.aload_n 0, 1) := by decide +kernel
theorem dX1_isRowFirst_10 : decode cX1_isRowFirst 10 = .ok (.iload_n 2, 1) := by decide +kernel
theorem dX1_isRowFirst_11 : decode cX1_isRowFirst 11 = .ok (.aload_n 0, 1) := by decide +kernel
theorem dX1_isRowFirst_12 : decode cX1_isRowFirst 12 = .ok (.getfield 40, 3) := by decide +kernel
theorem dX1_isRowFirst_15 : decode cX1_isRowFirst 15 = .ok (.invokevirtual 135, 3) := by decide +kernel
theorem dX1_isRowFirst_18 : decode cX1_isRowFirst 18 = .ok (.aload_n 0, 1) := by decide +kernel
theorem dX1_isRowFirst_19 : decode cX1_isRowFirst 19 = .ok (.aload_n 0, 1) := by decide +kernel
theorem dX1_isRowFirst_20 : decode cX1_isRowFirst 20 = .ok (.getfield 37, 3) := by decide +kernel
theorem dX1_isRowFirst_23 : decode cX1_isRowFirst 23 = .ok (.aload_n 0, 1) := by decide +kernel
theorem dX1_isRowFirst_24 : decode cX1_isRowFirst 24 = .ok (.getfield 40, 3) := by decide +kernel
theorem dX1_isRowFirst_27 : decode cX1_isRowFirst 27 = .ok (.invokevirtual 139, 3) := by decide +kernel
theorem dX1_isRowFirst_30 : decode cX1_isRowFirst 30 = .ok (.istore_n 3, 1) := by decide +kernel
theorem dX1_isRowFirst_31 : decode cX1_isRowFirst 31 = .ok (.iload_n 3, 1) := by decide +kernel
theorem dX1_isRowFirst_32 : decode cX1_isRowFirst 32 = .ok (.aload_n 0, 1) := by decide +kernel
theorem dX1_isRowFirst_33 : decode cX1_isRowFirst 33 = .ok (.getfield 64, 3) := by decide +kernel
theorem dX1_isRowFirst_36 : decode cX1_isRowFirst 36 = .ok (.if_icmp .ge 14, 3) := by decide +kernel
theorem dX1_isRowFirst_39 : decode cX1_isRowFirst 39 = .ok (.aload_n 0, 1) := by decide +kernel
theorem dX1_isRowFirst_40 : decode cX1_isRowFirst 40 = .ok (.getfield 37, 3) := by decide +kernel
theorem dX1_isRowFirst_43 : decode cX1_isRowFirst 43 = .ok (.iload_n 3, 1) := by decide +kernel
theorem dX1_isRowFirst_44 : decode cX1_isRowFirst 44 = .ok (.iaload, 1) := by decide +kernel
theorem dX1_isRowFirst_45 : decode cX1_isRowFirst 45 = .ok (.bipush (-5), 2) := by decide +kernel
theorem dX1_isRowFirst_47 : decode cX1_isRowFirst 47 = .ok (.if_icmp .ne 5, 3) := by decide +kernel
theorem dX1_isRowFirst_50 : decode cX1_isRowFirst 50 = .ok (.iconst 0, 1) := by decide +kernel
theorem dX1_isRowFirst_51 : decode cX1_isRowFirst 51 = .ok (.ireturn, 1) := by decide +kernel
theorem dX1_isRowFirst_52 : decode cX1_isRowFirst 52 = .ok (.aload_n 0, 1) := by decide +kernel
theorem dX1_isRowFirst_53 : decode cX1_isRowFirst 53 = .ok (.getfield 40, 3) := by decide +kernel
theorem dX1_isRowFirst_56 : decode cX1_isRowFirst 56 = .ok (.iload_n 3, 1) := by decide +kernel
theorem dX1_isRowFirst_57 : decode cX1_isRowFirst 57 = .ok (.iaload, 1) := by decide +kernel
theorem dX1_isRowFirst_58 : decode cX1_isRowFirst 58 = .ok (.bipush (-5), 2) := by decide +kernel
theorem dX1_isRowFirst_60 : decode cX1_isRowFirst 60 = .ok (.if_icmp .eq 18, 3) := by decide +kernel
theorem dX1_isRowFirst_63 : decode cX1_isRowFirst 63 = .ok (.aload_n 0, 1) := by decide +kernel
theorem dX1_isRowFirst_64 : decode cX1_isRowFirst 64 = .ok (.getfield 37, 3) := by decide +kernel
theorem dX1_isRowFirst_67 : decode cX1_isRowFirst 67 = .ok (.iload_n 3, 1) := by decide +kernel
theorem dX1_isRowFirst_68 : decode cX1_isRowFirst 68 = .ok (.iaload, 1) := by decide +kernel
theorem dX1_isRowFirst_69 : decode cX1_isRowFirst 69 = .ok (.aload_n 0, 1) := by decide +kernel
theorem dX1_isRowFirst_70 : decode cX1_isRowFirst 70 = .ok (.getfield 40, 3) := by decide +kernel
theorem dX1_isRowFirst_73 : decode cX1_isRowFirst 73 = .ok (.iload_n 3, 1) := by decide +kernel
theorem dX1_isRowFirst_74 : decode cX1_isRowFirst 74 = .ok (.iaload, 1) := by decide +kernel
theorem dX1_isRowFirst_75 : decode cX1_isRowFirst 75 = .ok (.if_icmp .ge 7, 3) := by decide +kernel
theorem dX1_isRowFirst_78 : decode cX1_isRowFirst 78 = .ok (.iconst 1, 1) := by decide +kernel
theorem dX1_isRowFirst_79 : decode cX1_isRowFirst 79 = .ok (.goto 4, 3) := by decide +kernel
theorem dX1_isRowFirst_82 : decode cX1_isRowFirst 82 = .ok (.iconst 0, 1) := by decide +kernel
theorem dX1_isRowFirst_83 : decode cX1_isRowFirst 83 = .ok (.ireturn, 1) := by decide +kernel
theorem dX1_countSame_0 : decode cX1_countSame 0 = .ok (.iconst 0, 1) := by decide +kernel
theorem dX1_countSame_1 : decode cX1_countSame 1 = .ok (.istore_n 3, 1) := by decide +kernel
theorem dX1_countSame_2 : decode cX1_countSame 2 = .ok (.iload_n 3, 1) := by decide +kernel
theorem dX1_countSame_3 : decode cX1_countSame 3 = .ok (.aload_n 0, 1) := by decide +kernel
theorem dX1_countSame_4 : decode cX1_countSame 4 = .ok (.getfield 64, 3) := by decide +kernel
theorem dX1_countSame_7 : decode cX1_countSame 7 = .ok (.if_icmp .ge 18, 3) := by decide +kernel
theorem dX1_countSame_10 : decode cX1_countSame 10 = .ok (.aload_n 1, 1) := by decide +kernel
theorem dX1_countSame_11 : decode cX1_countSame 11 = .ok (.iload_n 3, 1) := by decide +kernel
theorem dX1_countSame_12 : decode cX1_countSame 12 = .ok (.iaload, 1) := by decide +kernel
theorem dX1_countSame_13 : decode cX1_countSame 13 = .ok (.aload_n 2, 1) := by decide +kernel
theorem dX1_countSame_14 : decode cX1_countSame 14 = .ok (.iload_n 3, 1) := by decide +kernel
theorem dX1_countSame_15 : decode cX1_countSame 15 = .ok (.iaload, 1) := by decide +kernel
theorem dX1_countSame_16 : decode cX1_countSame 16 = .ok (.if_icmp .ne 9, 3) := by decide +kernel
theorem dX1_countSame_19 : decode cX1_countSame 19 = .ok (.iinc 3 1, 3) := by decide +kernel
theorem dX1_countSame_22 : decode cX1_countSame 22 = .ok (.goto (-20), 3) := by decide +kernel
theorem dX1_countSame_25 : decode cX1_countSame 25 = .ok (.iload_n 3, 1) := by decide +kernel
theorem dX1_countSame_26 : decode cX1_countSame 26 = .ok (.ireturn, 1) := by decide +kernel
theorem dX1_sameInEnds_0 : decode cX1_sameInEnds 0 = .ok (.aload_n 0, 1) := by decide +kernel
theorem dX1_sameInEnds_1 : decode cX1_sameInEnds 1 = .ok (.iconst (-1), 1) := by decide +kernel
theorem dX1_sameInEnds_2 : decode cX1_sameInEnds 2 = .ok (.invokevirtual 132, 3) := by decide +kernel
theorem dX1_sameInEnds_5 : decode cX1_sameInEnds 5 = .ok (.iload_n 1, 1) := by decide +kernel
theorem dX1_sameInEnds_6 : decode cX1_sameInEnds 6 = .ok (.if_icmp .gt 11, 3) := by decide +kernel
theorem dX1_sameInEnds_9 : decode cX1_sameInEnds 9 = .ok (.aload_n 0, 1) := by decide +kernel
theorem dX1_sameInEnds_10 : decode cX1_sameInEnds 10 = .ok (.iconst (-1), 1) := by decide +kernel
theorem dX1_sameInEnds_11 : decode cX1_sameInEnds 11 = .ok (.invokevirtual 143, 3) := by decide +kernel
theorem dX1_sameInEnds_14 : decode cX1_sameInEnds 14 = .ok (.goto 7, 3) := by decide +kernel
theorem dX1_sameInEnds_17 : decode cX1_sameInEnds 17 = .ok (.aload_n 0, 1) := by decide +kernel
theorem dX1_sameInEnds_18 : decode cX1_sameInEnds 18 = .ok (.getfield 64, 3) := by decide +kernel
theorem dX1_sameInEnds_21 : decode cX1_sameInEnds 21 = .ok (.istore_n 2, 1) := by decide +kernel
theorem dX1_sameInEnds_22 : decode cX1_sameInEnds 22 = .ok (.iconst 0, 1) := by decide +kernel
theorem dX1_sameInEnds_23 : decode cX1_sameInEnds 23 = .ok (.istore_n 3, 1) := by decide +kernel
theorem dX1_sameInEnds_24 : decode cX1_sameInEnds 24 = .ok (.iload_n 3, 1) := by decide +kernel
theorem dX1_sameInEnds_25 : decode cX1_sameInEnds 25 = .ok (.aload_n 0, 1) := by decide +kernel
theorem dX1_sameInEnds_26 : decode cX1_sameInEnds 26 = .ok (.getfield 64, 3) := by decide +kernel
theorem dX1_sameInEnds_29 : decode cX1_sameInEnds 29 = .ok (.if_icmp .ge 59, 3) := by decide +kernel
theorem dX1_sameInEnds_32 : decode cX1_sameInEnds 32 = .ok (.iconst 0, 1) := by decide +kernel
theorem dX1_sameInEnds_33 : decode cX1_sameInEnds 33 = .ok (.istore 4, 2) := by decide +kernel
theorem dX1_sameInEnds_35 : decode cX1_sameInEnds 35 = .ok (.iload 4, 2) := by decide +kernel
theorem dX1_sameInEnds_37 : decode cX1_sameInEnds 37 = .ok (.aload_n 0, 1) := by decide +kernel
theorem dX1_sameInEnds_38 : decode cX1_sameInEnds 38 = .ok (.getfield 18, 3) := by decide +kernel
theorem dX1_sameInEnds_41 : decode cX1_sameInEnds 41 = .ok (.iload_n 3, 1) := by decide +kernel
theorem dX1_sameInEnds_42 : decode cX1_sameInEnds 42 = .ok (.iaload, 1) := by decide +kernel
theorem dX1_sameInEnds_43 : decode cX1_sameInEnds 43 = .ok (.if_icmp .ge 39, 3) := by decide +kernel
theorem dX1_sameInEnds_46 : decode cX1_sameInEnds 46 = .ok (.iload_n 3, 1) := by decide +kernel
theorem dX1_sameInEnds_47 : decode cX1_sameInEnds 47 = .ok (.bipush 10, 2) := by decide +kernel
theorem dX1_sameInEnds_49 : decode cX1_sameInEnds 49 = .ok (.imul, 1) := by decide +kernel
theorem dX1_sameInEnds_50 : decode cX1_sameInEnds 50 = .ok (.iload 4, 2) := by decide +kernel
theorem dX1_sameInEnds_52 : decode cX1_sameInEnds 52 = .ok (.iadd, 1) := by decide +kernel
theorem dX1_sameInEnds_53 : decode cX1_sameInEnds 53 = .ok (.istore 5, 2) := by decide +kernel
theorem dX1_sameInEnds_55 : decode cX1_sameInEnds 55 = .ok (.aload_n 0, 1) := by decide +kernel
theorem dX1_sameInEnds_56 : decode cX1_sameInEnds 56 = .ok (.iload 5, 2) := by decide +kernel
theorem dX1_sameInEnds_58 : decode cX1_sameInEnds 58 = .ok (.invokevirtual 132, 3) := by decide +kernel
theorem dX1_sameInEnds_61 : decode cX1_sameInEnds 61 = .ok (.iload_n 1, 1) := by decide +kernel
theorem dX1_sameInEnds_62 : decode cX1_sameInEnds 62 = .ok (.if_icmp .gt 14, 3) := by decide +kernel
theorem dX1_sameInEnds_65 : decode cX1_sameInEnds 65 = .ok (.iload_n 2, 1) := by decide +kernel
theorem dX1_sameInEnds_66 : decode cX1_sameInEnds 66 = .ok (.aload_n 0, 1) := by decide +kernel
theorem dX1_sameInEnds_67 : decode cX1_sameInEnds 67 = .ok (.iload 5, 2) := by decide +kernel
theorem dX1_sameInEnds_69 : decode cX1_sameInEnds 69 = .ok (.invokevirtual 143, 3) := by decide +kernel
theorem dX1_sameInEnds_72 : decode cX1_sameInEnds 72 = .ok (.invokestatic 146, 3) := by decide +kernel
theorem dX1_sameInEnds_75 : decode cX1_sameInEnds 75 = .ok (.istore_n 2, 1) := by decide +kernel
theorem dX1_sameInEnds_76 : decode cX1_sameInEnds 76 = .ok (.iinc 4 1, 3) := by decide +kernel
theorem dX1_sameInEnds_79 : decode cX1_sameInEnds 79 = .ok (.goto (-44), 3) := by decide +kernel
theorem dX1_sameInEnds_82 : decode cX1_sameInEnds 82 = .ok (.iinc 3 1, 3) := by decide +kernel
theorem dX1_sameInEnds_85 : decode cX1_sameInEnds 85 = .ok (.goto (-61), 3) := by decide +kernel
theorem dX1_sameInEnds_88 : decode cX1_sameInEnds 88 = .ok (.iload_n 2, 1) := by decide +kernel
theorem dX1_sameInEnds_89 : decode cX1_sameInEnds 89 = .ok (.ireturn, 1) := by decide +kernel
theorem dX1_sameInEnd_0 : decode cX1_sameInEnd 0 = .ok (.aload_n 0, 1) := by decide +kernel
theorem dX1_sameInEnd_1 : decode cX1_sameInEnd 1 = .ok (.iload_n 1, 1) := by decide +kernel
theorem dX1_sameInEnd_2 : decode cX1_sameInEnd 2 = .ok (.aload_n 0, 1) := by decide +kernel
theorem dX1_sameInEnd_3 : decode cX1_sameInEnd 3 = .ok (.getfield 37, 3) := by decide +kernel
theorem dX1_sameInEnd_6 : decode cX1_sameInEnd 6 = .ok (.invokevirtual 135, 3) := by decide +kernel
theorem dX1_sameInEnd_9 : decode cX1_sameInEnd 9 = .ok (.aload_n 0, 1) := by decide +kernel
theorem dX1_sameInEnd_10 : decode cX1_sameInEnd 10 = .ok (.aload_n 0, 1) := by decide +kernel
theorem dX1_sameInEnd_11 : decode cX1_sameInEnd 11 = .ok (.getfield 37, 3) := by decide +kernel
theorem dX1_sameInEnd_14 : decode cX1_sameInEnd 14 = .ok (.aload_n 0, 1) := by decide +kernel
theorem dX1_sameInEnd_15 : decode cX1_sameInEnd 15 = .ok (.getfield 25, 3) := by decide +kernel
theorem dX1_sameInEnd_18 : decode cX1_sameInEnd 18 = .ok (.invokevirtual 139, 3) := by decide +kernel
theorem dX1_sameInEnd_21 : decode cX1_sameInEnd 21 = .ok (.ireturn, 1) := by decide +kernel
theorem dX1_fits_0 : decode cX1_fits 0 = .ok (.iconst 0, 1) := by decide +kernel
theorem dX1_fits_1 : decode cX1_fits 1 = .ok (.istore_n 2, 1) := by decide +kernel
theorem dX1_fits_2 : decode cX1_fits 2 = .ok (.iload_n 2, 1) := by decide +kernel
theorem dX1_fits_3 : decode cX1_fits 3 = .ok (.aload_n 0, 1) := by decide +kernel
theorem dX1_fits_4 : decode cX1_fits 4 = .ok (.getfield 64, 3) := by decide +kernel
theorem dX1_fits_7 : decode cX1_fits 7 = .ok (.if_icmp .ge 31, 3) := by decide +kernel
theorem dX1_fits_10 : decode cX1_fits 10 = .ok (.aload_n 1, 1) := by decide +kernel
theorem dX1_fits_11 : decode cX1_fits 11 = .ok (.iload_n 2, 1) := by decide +kernel
theorem dX1_fits_12 : decode cX1_fits 12 = .ok (.iaload, 1) := by decide +kernel
theorem dX1_fits_13 : decode cX1_fits 13 = .ok (.bipush (-5), 2) := by decide +kernel
theorem dX1_fits_15 : decode cX1_fits 15 = .ok (.if_icmp .eq 17, 3) := by decide +kernel
theorem dX1_fits_18 : decode cX1_fits 18 = .ok (.aload_n 0, 1) := by decide +kernel
theorem dX1_fits_19 : decode cX1_fits 19 = .ok (.iload_n 2, 1) := by decide +kernel
theorem dX1_fits_20 : decode cX1_fits 20 = .ok (.aload_n 1, 1) := by decide +kernel
theorem dX1_fits_21 : decode cX1_fits 21 = .ok (.iload_n 2, 1) := by decide +kernel
theorem dX1_fits_22 : decode cX1_fits 22 = .ok (.iaload, 1) := by decide +kernel
theorem dX1_fits_23 : decode cX1_fits 23 = .ok (.invokevirtual 151, 3) := by decide +kernel
theorem dX1_fits_26 : decode cX1_fits 26 = .ok (.iconst (-1), 1) := by decide +kernel
theorem dX1_fits_27 : decode cX1_fits 27 = .ok (.if_icmp .ne 5, 3) := by decide +kernel
theorem dX1_fits_30 : decode cX1_fits 30 = .ok (.iconst 0, 1) := by decide +kernel
theorem dX1_fits_31 : decode cX1_fits 31 = .ok (.ireturn, 1) := by decide +kernel
theorem dX1_fits_32 : decode cX1_fits 32 = .ok (.iinc 2 1, 3) := by decide +kernel
theorem dX1_fits_35 : decode cX1_fits 35 = .ok (.goto (-33), 3) := by decide +kernel
theorem dX1_fits_38 : decode cX1_fits 38 = .ok (.iconst 1, 1) := by decide +kernel
theorem dX1_fits_39 : decode cX1_fits 39 = .ok (.ireturn, 1) := by decide +kernel
theorem dX1_findSlot_0 : decode cX1_findSlot 0 = .ok (.iconst 0, 1) := by decide +kernel
theorem dX1_findSlot_1 : decode cX1_findSlot 1 = .ok (.istore_n 3, 1) := by decide +kernel
theorem dX1_findSlot_2 : decode cX1_findSlot 2 = .ok (.iload_n 3, 1) := by decide +kernel
theorem dX1_findSlot_3 : decode cX1_findSlot 3 = .ok (.aload_n 0, 1) := by decide +kernel
theorem dX1_findSlot_4 : decode cX1_findSlot 4 = .ok (.getfield 18, 3) := by decide +kernel
theorem dX1_findSlot_7 : decode cX1_findSlot 7 = .ok (.iload_n 1, 1) := by decide +kernel
theorem dX1_findSlot_8 : decode cX1_findSlot 8 = .ok (.iaload, 1) := by decide +kernel
theorem dX1_findSlot_9 : decode cX1_findSlot 9 = .ok (.if_icmp .ge 31, 3) := by decide +kernel
theorem dX1_findSlot_12 : decode cX1_findSlot 12 = .ok (.aload_n 0, 1) := by decide +kernel
theorem dX1_findSlot_13 : decode cX1_findSlot 13 = .ok (.getfield 22, 3) := by decide +kernel
theorem dX1_findSlot_16 : decode cX1_findSlot 16 = .ok (.iload_n 1, 1) := by decide +kernel
theorem dX1_findSlot_17 : decode cX1_findSlot 17 = .ok (.bipush 10, 2) := by decide +kernel
theorem dX1_findSlot_19 : decode cX1_findSlot 19 = .ok (.imul, 1) := by decide +kernel
theorem dX1_findSlot_20 : decode cX1_findSlot 20 = .ok (.iload_n 3, 1) := by decide +kernel
theorem dX1_findSlot_21 : decode cX1_findSlot 21 = .ok (.iadd, 1) := by decide +kernel
theorem dX1_findSlot_22 : decode cX1_findSlot 22 = .ok (.iaload, 1) := by decide +kernel
theorem dX1_findSlot_23 : decode cX1_findSlot 23 = .ok (.iload_n 2, 1) := by decide +kernel
theorem dX1_findSlot_24 : decode cX1_findSlot 24 = .ok (.if_icmp .ne 10, 3) := by decide +kernel
theorem dX1_findSlot_27 : decode cX1_findSlot 27 = .ok (.iload_n 1, 1) := by decide +kernel
theorem dX1_findSlot_28 : decode cX1_findSlot 28 = .ok (.bipush 10, 2) := by decide +kernel
theorem dX1_findSlot_30 : decode cX1_findSlot 30 = .ok (.imul, 1) := by decide +kernel
theorem dX1_findSlot_31 : decode cX1_findSlot 31 = .ok (.iload_n 3, 1) := by decide +kernel
theorem dX1_findSlot_32 : decode cX1_findSlot 32 = .ok (.iadd, 1) := by decide +kernel
theorem dX1_findSlot_33 : decode cX1_findSlot 33 = .ok (.ireturn, 1) := by decide +kernel
theorem dX1_findSlot_34 : decode cX1_findSlot 34 = .ok (.iinc 3 1, 3) := by decide +kernel
theorem dX1_findSlot_37 : decode cX1_findSlot 37 = .ok (.goto (-35), 3) := by decide +kernel
theorem dX1_findSlot_40 : decode cX1_findSlot 40 = .ok (.iconst (-1), 1) := by decide +kernel
theorem dX1_findSlot_41 : decode cX1_findSlot 41 = .ok (.ireturn, 1) := by decide +kernel
theorem dX1_costOfRow_0 : decode cX1_costOfRow 0 = .ok (.iconst 0, 1) := by decide +kernel
theorem dX1_costOfRow_1 : decode cX1_costOfRow 1 = .ok (.istore_n 2, 1) := by decide +kernel
theorem dX1_costOfRow_2 : decode cX1_costOfRow 2 = .ok (.iconst (-1), 1) := by decide +kernel
theorem dX1_costOfRow_3 : decode cX1_costOfRow 3 = .ok (.istore_n 3, 1) := by decide +kernel
theorem dX1_costOfRow_4 : decode cX1_costOfRow 4 = .ok (.iconst 0, 1) := by decide +kernel
theorem dX1_costOfRow_5 : decode cX1_costOfRow 5 = .ok (.istore 4, 2) := by decide +kernel
theorem dX1_costOfRow_7 : decode cX1_costOfRow 7 = .ok (.iload 4, 2) := by decide +kernel
theorem dX1_costOfRow_9 : decode cX1_costOfRow 9 = .ok (.aload_n 0, 1) := by decide +kernel
theorem dX1_costOfRow_10 : decode cX1_costOfRow 10 = .ok (.getfield 64, 3) := by decide +kernel
theorem dX1_costOfRow_13 : decode cX1_costOfRow 13 = .ok (.if_icmp .ge 94, 3) := by decide +kernel
theorem dX1_costOfRow_16 : decode cX1_costOfRow 16 = .ok (.aload_n 0, 1) := by decide +kernel
theorem dX1_costOfRow_17 : decode cX1_costOfRow 17 = .ok (.iload 4, 2) := by decide +kernel
theorem dX1_costOfRow_19 : decode cX1_costOfRow 19 = .ok (.aload_n 1, 1) := by decide +kernel
theorem dX1_costOfRow_20 : decode cX1_costOfRow 20 = .ok (.iload 4, 2) := by decide +kernel
theorem dX1_costOfRow_22 : decode cX1_costOfRow 22 = .ok (.iaload, 1) := by decide +kernel
theorem dX1_costOfRow_23 : decode cX1_costOfRow 23 = .ok (.invokevirtual 151, 3) := by decide +kernel
theorem dX1_costOfRow_26 : decode cX1_costOfRow 26 = .ok (.istore 5, 2) := by decide +kernel
theorem dX1_costOfRow_28 : decode cX1_costOfRow 28 = .ok (.iload 5, 2) := by decide +kernel
theorem dX1_costOfRow_30 : decode cX1_costOfRow 30 = .ok (.iconst (-1), 1) := by decide +kernel
theorem dX1_costOfRow_31 : decode cX1_costOfRow 31 = .ok (.if_icmp .ne 13, 3) := by decide +kernel
theorem dX1_costOfRow_34 : decode cX1_costOfRow 34 = .ok (.iload_n 2, 1) := by decide +kernel
theorem dX1_costOfRow_35 : decode cX1_costOfRow 35 = .ok (.aload_n 0, 1) := by decide +kernel
theorem dX1_costOfRow_36 : decode cX1_costOfRow 36 = .ok (.getfield 15, 3) := by decide +kernel
theorem dX1_costOfRow_39 : decode cX1_costOfRow 39 = .ok (.iadd, 1) := by decide +kernel
theorem dX1_costOfRow_40 : decode cX1_costOfRow 40 = .ok (.istore_n 2, 1) := by decide +kernel
theorem dX1_costOfRow_41 : decode cX1_costOfRow 41 = .ok (.goto 60, 3) := by decide +kernel
theorem dX1_costOfRow_44 : decode cX1_costOfRow 44 = .ok (.iload_n 2, 1) := by decide +kernel
theorem dX1_costOfRow_45 : decode cX1_costOfRow 45 = .ok (.aload_n 0, 1) := by decide +kernel
theorem dX1_costOfRow_46 : decode cX1_costOfRow 46 = .ok (.getfield 28, 3) := by decide +kernel
theorem dX1_costOfRow_49 : decode cX1_costOfRow 49 = .ok (.iload 5, 2) := by decide +kernel
theorem dX1_costOfRow_51 : decode cX1_costOfRow 51 = .ok (.iaload, 1) := by decide +kernel
theorem dX1_costOfRow_52 : decode cX1_costOfRow 52 = .ok (.iadd, 1) := by decide +kernel
theorem dX1_costOfRow_53 : decode cX1_costOfRow 53 = .ok (.istore_n 2, 1) := by decide +kernel
theorem dX1_costOfRow_54 : decode cX1_costOfRow 54 = .ok (.iload_n 3, 1) := by decide +kernel
theorem dX1_costOfRow_55 : decode cX1_costOfRow 55 = .ok (.iconst (-1), 1) := by decide +kernel
theorem dX1_costOfRow_56 : decode cX1_costOfRow 56 = .ok (.if_icmp .eq 42, 3) := by decide +kernel
theorem dX1_costOfRow_59 : decode cX1_costOfRow 59 = .ok (.aload_n 0, 1) := by decide +kernel
theorem dX1_costOfRow_60 : decode cX1_costOfRow 60 = .ok (.aload_n 1, 1) := by decide +kernel
theorem dX1_costOfRow_61 : decode cX1_costOfRow 61 = .ok (.iload_n 3, 1) := by decide +kernel
theorem dX1_costOfRow_62 : decode cX1_costOfRow 62 = .ok (.iaload, 1) := by decide +kernel
theorem dX1_costOfRow_63 : decode cX1_costOfRow 63 = .ok (.aload_n 1, 1) := by decide +kernel
theorem dX1_costOfRow_64 : decode cX1_costOfRow 64 = .ok (.iload 4, 2) := by decide +kernel
theorem dX1_costOfRow_66 : decode cX1_costOfRow 66 = .ok (.iaload, 1) := by decide +kernel
theorem dX1_costOfRow_67 : decode cX1_costOfRow 67 = .ok (.aload_n 0, 1) := by decide +kernel
theorem dX1_costOfRow_68 : decode cX1_costOfRow 68 = .ok (.aload_n 0, 1) := by decide +kernel
theorem dX1_costOfRow_69 : decode cX1_costOfRow 69 = .ok (.iload_n 3, 1) := by decide +kernel
theorem dX1_costOfRow_70 : decode cX1_costOfRow 70 = .ok (.iload 4, 2) := by decide +kernel
theorem dX1_costOfRow_72 : decode cX1_costOfRow 72 = .ok (.invokevirtual 154, 3) := by decide +kernel
theorem dX1_costOfRow_75 : decode cX1_costOfRow 75 = .ok (.invokevirtual 115, 3) := by decide +kernel
theorem dX1_costOfRow_78 : decode cX1_costOfRow 78 = .ok (.invokevirtual 118, 3) := by decide +kernel
theorem dX1_costOfRow_81 : decode cX1_costOfRow 81 = .ok (.istore 6, 2) := by decide +kernel
theorem dX1_costOfRow_83 : decode cX1_costOfRow 83 = .ok (.iload 6, 2) := by decide +kernel
theorem dX1_costOfRow_85 : decode cX1_costOfRow 85 = .ok (.ifCond .ge 6, 3) := by decide +kernel
theorem dX1_costOfRow_88 : decode cX1_costOfRow 88 = .ok (.bipush (-4), 2) := by decide +kernel
theorem dX1_costOfRow_90 : decode cX1_costOfRow 90 = .ok (.ireturn, 1) := by decide +kernel
theorem dX1_costOfRow_91 : decode cX1_costOfRow 91 = .ok (.iload_n 2, 1) := by decide +kernel
theorem dX1_costOfRow_92 : decode cX1_costOfRow 92 = .ok (.iload 6, 2) := by decide +kernel
theorem dX1_costOfRow_94 : decode cX1_costOfRow 94 = .ok (.iconst 4, 1) := by decide +kernel
theorem dX1_costOfRow_95 : decode cX1_costOfRow 95 = .ok (.idiv, 1) := by decide +kernel
theorem dX1_costOfRow_96 : decode cX1_costOfRow 96 = .ok (.iadd, 1) := by decide +kernel
theorem dX1_costOfRow_97 : decode cX1_costOfRow 97 = .ok (.istore_n 2, 1) := by decide +kernel
theorem dX1_costOfRow_98 : decode cX1_costOfRow 98 = .ok (.iload 4, 2) := by decide +kernel
theorem dX1_costOfRow_100 : decode cX1_costOfRow 100 = .ok (.istore_n 3, 1) := by decide +kernel
theorem dX1_costOfRow_101 : decode cX1_costOfRow 101 = .ok (.iinc 4 1, 3) := by decide +kernel
theorem dX1_costOfRow_104 : decode cX1_costOfRow 104 = .ok (.goto (-97), 3) := by decide +kernel
theorem dX1_costOfRow_107 : decode cX1_costOfRow 107 = .ok (.iload_n 2, 1) := by decide +kernel
theorem dX1_costOfRow_108 : decode cX1_costOfRow 108 = .ok (.ireturn, 1) := by decide +kernel
theorem dX1_ticksBetween_0 : decode cX1_ticksBetween 0 = .ok (.aload_n 0, 1) := by decide +kernel
theorem dX1_ticksBetween_1 : decode cX1_ticksBetween 1 = .ok (.getfield 51, 3) := by decide +kernel
theorem dX1_ticksBetween_4 : decode cX1_ticksBetween 4 = .ok (.ifnonnull 7, 3) := by decide +kernel
theorem dX1_ticksBetween_7 : decode cX1_ticksBetween 7 = .ok (.iconst 0, 1) := by decide +kernel
theorem dX1_ticksBetween_8 : decode cX1_ticksBetween 8 = .ok (.goto 22, 3) := by decide +kernel
theorem dX1_ticksBetween_11 : decode cX1_ticksBetween 11 = .ok (.aload_n 0, 1) := by decide +kernel
theorem dX1_ticksBetween_12 : decode cX1_ticksBetween 12 = .ok (.getfield 51, 3) := by decide +kernel
theorem dX1_ticksBetween_15 : decode cX1_ticksBetween 15 = .ok (.getfield 85, 3) := by decide +kernel
theorem dX1_ticksBetween_18 : decode cX1_ticksBetween 18 = .ok (.iload_n 2, 1) := by decide +kernel
theorem dX1_ticksBetween_19 : decode cX1_ticksBetween 19 = .ok (.iaload, 1) := by decide +kernel
theorem dX1_ticksBetween_20 : decode cX1_ticksBetween 20 = .ok (.aload_n 0, 1) := by decide +kernel
theorem dX1_ticksBetween_21 : decode cX1_ticksBetween 21 = .ok (.getfield 51, 3) := by decide +kernel
theorem dX1_ticksBetween_24 : decode cX1_ticksBetween 24 = .ok (.getfield 85, 3) := by decide +kernel
theorem dX1_ticksBetween_27 : decode cX1_ticksBetween 27 = .ok (.iload_n 1, 1) := by decide +kernel
theorem dX1_ticksBetween_28 : decode cX1_ticksBetween 28 = .ok (.iaload, 1) := by decide +kernel
theorem dX1_ticksBetween_29 : decode cX1_ticksBetween 29 = .ok (.isub, 1) := by decide +kernel
theorem dX1_ticksBetween_30 : decode cX1_ticksBetween 30 = .ok (.ireturn, 1) := by decide +kernel
theorem dX1_feesOfLeastRow_0 : decode cX1_feesOfLeastRow 0 = .ok (.iconst 0, 1) := by decide +kernel
theorem dX1_feesOfLeastRow_1 : decode cX1_feesOfLeastRow 1 = .ok (.istore_n 1, 1) := by decide +kernel
theorem dX1_feesOfLeastRow_2 : decode cX1_feesOfLeastRow 2 = .ok (.iconst 0, 1) := by decide +kernel
theorem dX1_feesOfLeastRow_3 : decode cX1_feesOfLeastRow 3 = .ok (.istore_n 2, 1) := by decide +kernel
theorem dX1_feesOfLeastRow_4 : decode cX1_feesOfLeastRow 4 = .ok (.iload_n 2, 1) := by decide +kernel
theorem dX1_feesOfLeastRow_5 : decode cX1_feesOfLeastRow 5 = .ok (.aload_n 0, 1) := by decide +kernel
theorem dX1_feesOfLeastRow_6 : decode cX1_feesOfLeastRow 6 = .ok (.getfield 64, 3) := by decide +kernel
theorem dX1_feesOfLeastRow_9 : decode cX1_feesOfLeastRow 9 = .ok (.if_icmp .ge 72, 3) := by decide +kernel
theorem dX1_feesOfLeastRow_12 : decode cX1_feesOfLeastRow 12 = .ok (.aload_n 0, 1) := by decide +kernel
theorem dX1_feesOfLeastRow_13 : decode cX1_feesOfLeastRow 13 = .ok (.iload_n 2, 1) := by decide +kernel
theorem dX1_feesOfLeastRow_14 : decode cX1_feesOfLeastRow 14 = .ok (.invokevirtual 157, 3) := by decide +kernel
theorem dX1_feesOfLeastRow_17 : decode cX1_feesOfLeastRow 17 = .ok (.istore_n 3, 1) := by decide +kernel
theorem dX1_feesOfLeastRow_18 : decode cX1_feesOfLeastRow 18 = .ok (.aload_n 0, 1) := by decide +kernel
theorem dX1_feesOfLeastRow_19 : decode cX1_feesOfLeastRow 19 = .ok (.getfield 25, 3) := by decide +kernel
theorem dX1_feesOfLeastRow_22 : decode cX1_feesOfLeastRow 22 = .ok (.iload_n 2, 1) := by decide +kernel
theorem dX1_feesOfLeastRow_23 : decode cX1_feesOfLeastRow 23 = .ok (.iaload, 1) := by decide +kernel
theorem dX1_feesOfLeastRow_24 : decode cX1_feesOfLeastRow 24 = .ok (.bipush (-5), 2) := by decide +kernel
theorem dX1_feesOfLeastRow_26 : decode cX1_feesOfLeastRow 26 = .ok (.if_icmp .eq 49, 3) := by decide +kernel
theorem dX1_feesOfLeastRow_29 : decode cX1_feesOfLeastRow 29 = .ok (.iload_n 3, 1) := by decide +kernel
theorem dX1_feesOfLeastRow_30 : decode cX1_feesOfLeastRow 30 = .ok (.iconst (-1), 1) := by decide +kernel
theorem dX1_feesOfLeastRow_31 : decode cX1_feesOfLeastRow 31 = .ok (.if_icmp .eq 44, 3) := by decide +kernel
theorem dX1_feesOfLeastRow_34 : decode cX1_feesOfLeastRow 34 = .ok (.aload_n 0, 1) := by decide +kernel
theorem dX1_feesOfLeastRow_35 : decode cX1_feesOfLeastRow 35 = .ok (.getfield 47, 3) := by decide +kernel
theorem dX1_feesOfLeastRow_38 : decode cX1_feesOfLeastRow 38 = .ok (.aload_n 0, 1) := by decide +kernel
theorem dX1_feesOfLeastRow_39 : decode cX1_feesOfLeastRow 39 = .ok (.getfield 25, 3) := by decide +kernel
theorem dX1_feesOfLeastRow_42 : decode cX1_feesOfLeastRow 42 = .ok (.iload_n 2, 1) := by decide +kernel
theorem dX1_feesOfLeastRow_43 : decode cX1_feesOfLeastRow 43 = .ok (.iaload, 1) := by decide +kernel
theorem dX1_feesOfLeastRow_44 : decode cX1_feesOfLeastRow 44 = .ok (.aload_n 0, 1) := by decide +kernel
theorem dX1_feesOfLeastRow_45 : decode cX1_feesOfLeastRow 45 = .ok (.getfield 25, 3) := by decide +kernel
theorem dX1_feesOfLeastRow_48 : decode cX1_feesOfLeastRow 48 = .ok (.iload_n 3, 1) := by decide +kernel
theorem dX1_feesOfLeastRow_49 : decode cX1_feesOfLeastRow 49 = .ok (.iaload, 1) := by decide +kernel
theorem dX1_feesOfLeastRow_50 : decode cX1_feesOfLeastRow 50 = .ok (.invokevirtual 125, 3) := by decide +kernel
theorem dX1_feesOfLeastRow_53 : decode cX1_feesOfLeastRow 53 = .ok (.istore 4, 2) := by decide +kernel
theorem dX1_feesOfLeastRow_55 : decode cX1_feesOfLeastRow 55 = .ok (.iload_n 1, 1) := by decide +kernel
theorem dX1_feesOfLeastRow_56 : decode cX1_feesOfLeastRow 56 = .ok (.iload 4, 2) := by decide +kernel
theorem dX1_feesOfLeastRow_58 : decode cX1_feesOfLeastRow 58 = .ok (.ldc 131, 2) := by decide +kernel
theorem dX1_feesOfLeastRow_60 : decode cX1_feesOfLeastRow 60 = .ok (.if_icmp .ne 7, 3) := by decide +kernel
theorem dX1_feesOfLeastRow_63 : decode cX1_feesOfLeastRow 63 = .ok (.iconst 0, 1) := by decide +kernel
theorem dX1_feesOfLeastRow_64 : decode cX1_feesOfLeastRow 64 = .ok (.goto 9, 3) := by decide +kernel
theorem dX1_feesOfLeastRow_67 : decode cX1_feesOfLeastRow 67 = .ok (.iload 4, 2) := by decide +kernel
theorem dX1_feesOfLeastRow_69 : decode cX1_feesOfLeastRow 69 = .ok (.sipush 10000, 3) := by decide +kernel
theorem dX1_feesOfLeastRow_72 : decode cX1_feesOfLeastRow 72 = .ok (.irem, 1) := by decide +kernel
theorem dX1_feesOfLeastRow_73 : decode cX1_feesOfLeastRow 73 = .ok (.iadd, 1) := by decide +kernel
theorem dX1_feesOfLeastRow_74 : decode cX1_feesOfLeastRow 74 = .ok (.istore_n 1, 1) := by decide +kernel
theorem dX1_feesOfLeastRow_75 : decode cX1_feesOfLeastRow 75 = .ok (.iinc 2 1, 3) := by decide +kernel
theorem dX1_feesOfLeastRow_78 : decode cX1_feesOfLeastRow 78 = .ok (.goto (-74), 3) := by decide +kernel
theorem dX1_feesOfLeastRow_81 : decode cX1_feesOfLeastRow 81 = .ok (.iload_n 1, 1) := by decide +kernel
theorem dX1_feesOfLeastRow_82 : decode cX1_feesOfLeastRow 82 = .ok (.ireturn, 1) := by decide +kernel
theorem dX1_speedBehind_0 : decode cX1_speedBehind 0 = .ok (.aload_n 0, 1) := by decide +kernel
theorem dX1_speedBehind_1 : decode cX1_speedBehind 1 = .ok (.iload_n 1, 1) := by decide +kernel
theorem dX1_speedBehind_2 : decode cX1_speedBehind 2 = .ok (.invokevirtual 157, 3) := by decide +kernel
theorem dX1_speedBehind_5 : decode cX1_speedBehind 5 = .ok (.istore_n 2, 1) := by decide +kernel
theorem dX1_speedBehind_6 : decode cX1_speedBehind 6 = .ok (.aload_n 0, 1) := by decide +kernel
theorem dX1_speedBehind_7 : decode cX1_speedBehind 7 = .ok (.getfield 25, 3) := by decide +kernel
theorem dX1_speedBehind_10 : decode cX1_speedBehind 10 = .ok (.iload_n 1, 1) := by decide +kernel
theorem dX1_speedBehind_11 : decode cX1_speedBehind 11 = .ok (.iaload, 1) := by decide +kernel
theorem dX1_speedBehind_12 : decode cX1_speedBehind 12 = .ok (.bipush (-5), 2) := by decide +kernel
theorem dX1_speedBehind_14 : decode cX1_speedBehind 14 = .ok (.if_icmp .eq 8, 3) := by decide +kernel
theorem dX1_speedBehind_17 : decode cX1_speedBehind 17 = .ok (.iload_n 2, 1) := by decide +kernel
theorem dX1_speedBehind_18 : decode cX1_speedBehind 18 = .ok (.iconst (-1), 1) := by decide +kernel
theorem dX1_speedBehind_19 : decode cX1_speedBehind 19 = .ok (.if_icmp .ne 6, 3) := by decide +kernel
theorem dX1_speedBehind_22 : decode cX1_speedBehind 22 = .ok (.bipush (-3), 2) := by decide +kernel
theorem dX1_speedBehind_24 : decode cX1_speedBehind 24 = .ok (.ireturn, 1) := by decide +kernel
theorem dX1_speedBehind_25 : decode cX1_speedBehind 25 = .ok (.aload_n 0, 1) := by decide +kernel
theorem dX1_speedBehind_26 : decode cX1_speedBehind 26 = .ok (.getfield 47, 3) := by decide +kernel
theorem dX1_speedBehind_29 : decode cX1_speedBehind 29 = .ok (.aload_n 0, 1) := by decide +kernel
theorem dX1_speedBehind_30 : decode cX1_speedBehind 30 = .ok (.getfield 25, 3) := by decide +kernel
theorem dX1_speedBehind_33 : decode cX1_speedBehind 33 = .ok (.iload_n 1, 1) := by decide +kernel
theorem dX1_speedBehind_34 : decode cX1_speedBehind 34 = .ok (.iaload, 1) := by decide +kernel
theorem dX1_speedBehind_35 : decode cX1_speedBehind 35 = .ok (.aload_n 0, 1) := by decide +kernel
theorem dX1_speedBehind_36 : decode cX1_speedBehind 36 = .ok (.getfield 25, 3) := by decide +kernel
theorem dX1_speedBehind_39 : decode cX1_speedBehind 39 = .ok (.iload_n 2, 1) := by decide +kernel
theorem dX1_speedBehind_40 : decode cX1_speedBehind 40 = .ok (.iaload, 1) := by decide +kernel
theorem dX1_speedBehind_41 : decode cX1_speedBehind 41 = .ok (.invokevirtual 125, 3) := by decide +kernel
theorem dX1_speedBehind_44 : decode cX1_speedBehind 44 = .ok (.istore_n 3, 1) := by decide +kernel
theorem dX1_speedBehind_45 : decode cX1_speedBehind 45 = .ok (.aload_n 0, 1) := by decide +kernel
theorem dX1_speedBehind_46 : decode cX1_speedBehind 46 = .ok (.iload_n 1, 1) := by decide +kernel
theorem dX1_speedBehind_47 : decode cX1_speedBehind 47 = .ok (.iload_n 2, 1) := by decide +kernel
theorem dX1_speedBehind_48 : decode cX1_speedBehind 48 = .ok (.invokevirtual 154, 3) := by decide +kernel
theorem dX1_speedBehind_51 : decode cX1_speedBehind 51 = .ok (.istore 4, 2) := by decide +kernel
theorem dX1_speedBehind_53 : decode cX1_speedBehind 53 = .ok (.iload_n 3, 1) := by decide +kernel
theorem dX1_speedBehind_54 : decode cX1_speedBehind 54 = .ok (.ldc 131, 2) := by decide +kernel
theorem dX1_speedBehind_56 : decode cX1_speedBehind 56 = .ok (.if_icmp .eq 8, 3) := by decide +kernel
theorem dX1_speedBehind_59 : decode cX1_speedBehind 59 = .ok (.iload 4, 2) := by decide +kernel
theorem dX1_speedBehind_61 : decode cX1_speedBehind 61 = .ok (.ifCond .gt 8, 3) := by decide +kernel
theorem dX1_speedBehind_64 : decode cX1_speedBehind 64 = .ok (.bipush (-3), 2) := by decide +kernel
theorem dX1_speedBehind_66 : decode cX1_speedBehind 66 = .ok (.goto 13, 3) := by decide +kernel
theorem dX1_speedBehind_69 : decode cX1_speedBehind 69 = .ok (.iload_n 3, 1) := by decide +kernel
theorem dX1_speedBehind_70 : decode cX1_speedBehind 70 = .ok (.sipush 10000, 3) := by decide +kernel
theorem dX1_speedBehind_73 : decode cX1_speedBehind 73 = .ok (.idiv, 1) := by decide +kernel
theorem dX1_speedBehind_74 : decode cX1_speedBehind 74 = .ok (.iconst 4, 1) := by decide +kernel
theorem dX1_speedBehind_75 : decode cX1_speedBehind 75 = .ok (.iload 4, 2) := by decide +kernel
theorem dX1_speedBehind_77 : decode cX1_speedBehind 77 = .ok (.imul, 1) := by decide +kernel
theorem dX1_speedBehind_78 : decode cX1_speedBehind 78 = .ok (.idiv, 1) := by decide +kernel
theorem dX1_speedBehind_79 : decode cX1_speedBehind 79 = .ok (.ireturn, 1) := by decide +kernel
theorem dX1_nextNotLeft_0 : decode cX1_nextNotLeft 0 = .ok (.iload_n 1, 1) := by decide +kernel
theorem dX1_nextNotLeft_1 : decode cX1_nextNotLeft 1 = .ok (.iconst 1, 1) := by decide +kernel
theorem dX1_nextNotLeft_2 : decode cX1_nextNotLeft 2 = .ok (.iadd, 1) := by decide +kernel
theorem dX1_nextNotLeft_3 : decode cX1_nextNotLeft 3 = .ok (.istore_n 2, 1) := by decide +kernel
theorem dX1_nextNotLeft_4 : decode cX1_nextNotLeft 4 = .ok (.iload_n 2, 1) := by decide +kernel
theorem dX1_nextNotLeft_5 : decode cX1_nextNotLeft 5 = .ok (.aload_n 0, 1) := by decide +kernel
theorem dX1_nextNotLeft_6 : decode cX1_nextNotLeft 6 = .ok (.getfield 64, 3) := by decide +kernel
theorem dX1_nextNotLeft_9 : decode cX1_nextNotLeft 9 = .ok (.if_icmp .ge 22, 3) := by decide +kernel
theorem dX1_nextNotLeft_12 : decode cX1_nextNotLeft 12 = .ok (.aload_n 0, 1) := by decide +kernel
theorem dX1_nextNotLeft_13 : decode cX1_nextNotLeft 13 = .ok (.getfield 25, 3) := by decide +kernel
theorem dX1_nextNotLeft_16 : decode cX1_nextNotLeft 16 = .ok (.iload_n 2, 1) := by decide +kernel
theorem dX1_nextNotLeft_17 : decode cX1_nextNotLeft 17 = .ok (.iaload, 1) := by decide +kernel
theorem dX1_nextNotLeft_18 : decode cX1_nextNotLeft 18 = .ok (.bipush (-5), 2) := by decide +kernel
theorem dX1_nextNotLeft_20 : decode cX1_nextNotLeft 20 = .ok (.if_icmp .eq 5, 3) := by decide +kernel
theorem dX1_nextNotLeft_23 : decode cX1_nextNotLeft 23 = .ok (.iload_n 2, 1) := by decide +kernel
theorem dX1_nextNotLeft_24 : decode cX1_nextNotLeft 24 = .ok (.ireturn, 1) := by decide +kernel
theorem dX1_nextNotLeft_25 : decode cX1_nextNotLeft 25 = .ok (.iinc 2 1, 3) := by decide +kernel
theorem dX1_nextNotLeft_28 : decode cX1_nextNotLeft 28 = .ok (.goto (-24), 3) := by decide +kernel
theorem dX1_nextNotLeft_31 : decode cX1_nextNotLeft 31 = .ok (.iconst (-1), 1) := by decide +kernel
theorem dX1_nextNotLeft_32 : decode cX1_nextNotLeft 32 = .ok (.ireturn, 1) := by decide +kernel
end
section
theorem dX4_init_0 : decode cX4_init 0 = .ok (.aload_n 0, 1) := by decide +kernel
theorem dX4_init_1 : decode cX4_init 1 = .ok (.invokespecial 3, 3) := by decide +kernel
theorem dX4_init_4 : decode cX4_init 4 = .ok (.aload_n 0, 1) := by decide +kernel
theorem dX4_init_5 : decode cX4_init 5 = .ok (.new 9, 3) := by decide +kernel
theorem dX4_init_8 : decode cX4_init 8 = .ok (.dup, 1) := by decide +kernel
theorem dX4_init_9 : decode cX4_init 9 = .ok (.invokespecial 11, 3) := by decide +kernel
theorem dX4_init_12 : decode cX4_init 12 = .ok (.putfield 12, 3) := by decide +kernel
theorem dX4_init_15 : decode cX4_init 15 = .ok (.aload_n 0, 1) := by decide +kernel
theorem dX4_init_16 : decode cX4_init 16 = .ok (.new 16, 3) := by decide +kernel
theorem dX4_init_19 : decode cX4_init 19 = .ok (.dup, 1) := by decide +kernel
theorem dX4_init_20 : decode cX4_init 20 = .ok (.aload_n 0, 1) := by decide +kernel
theorem dX4_init_21 : decode cX4_init 21 = .ok (.getfield 12, 3) := by decide +kernel
theorem dX4_init_24 : decode cX4_init 24 = .ok (.invokespecial 18, 3) := by decide +kernel
theorem dX4_init_27 : decode cX4_init 27 = .ok (.putfield 21, 3) := by decide +kernel
theorem dX4_init_30 : decode cX4_init 30 = .ok (.aload_n 0, 1) := by decide +kernel
theorem dX4_init_31 : decode cX4_init 31 = .ok (.new 25, 3) := by decide +kernel
theorem dX4_init_34 : decode cX4_init 34 = .ok (.dup, 1) := by decide +kernel
theorem dX4_init_35 : decode cX4_init 35 = .ok (.aload_n 0, 1) := by decide +kernel
theorem dX4_init_36 : decode cX4_init 36 = .ok (.getfield 12, 3) := by decide +kernel
theorem dX4_init_39 : decode cX4_init 39 = .ok (.aload_n 0, 1) := by decide +kernel
theorem dX4_init_40 : decode cX4_init 40 = .ok (.getfield 21, 3) := by decide +kernel
theorem dX4_init_43 : decode cX4_init 43 = .ok (.invokespecial 27, 3) := by decide +kernel
theorem dX4_init_46 : decode cX4_init 46 = .ok (.putfield 30, 3) := by decide +kernel
theorem dX4_init_49 : decode cX4_init 49 = .ok (.aload_n 0, 1) := by decide +kernel
theorem dX4_init_50 : decode cX4_init 50 = .ok (.bipush 6, 2) := by decide +kernel
theorem dX4_init_52 : decode cX4_init 52 = .ok (.anewarray 34, 3) := by decide +kernel
theorem dX4_init_55 : decode cX4_init 55 = .ok (.putfield 36, 3) := by decide +kernel
theorem dX4_init_58 : decode cX4_init 58 = .ok (.aload_n 0, 1) := by decide +kernel
theorem dX4_init_59 : decode cX4_init 59 = .ok (.iconst 0, 1) := by decide +kernel
theorem dX4_init_60 : decode cX4_init 60 = .ok (.putfield 40, 3) := by decide +kernel
theorem dX4_init_63 : decode cX4_init 63 = .ok (.aload_n 0, 1) := by decide +kernel
theorem dX4_init_64 : decode cX4_init 64 = .ok (.bipush 20, 2) := by decide +kernel
theorem dX4_init_66 : decode cX4_init 66 = .ok (.newarray .int, 2) := by decide +kernel
theorem dX4_init_68 : decode cX4_init 68 = .ok (.putfield 44, 3) := by decide +kernel
theorem dX4_init_71 : decode cX4_init 71 = .ok (.aload_n 0, 1) := by decide +kernel
theorem dX4_init_72 : decode cX4_init 72 = .ok (.iconst 0, 1) := by decide +kernel
theorem dX4_init_73 : decode cX4_init 73 = .ok (.putfield 48, 3) := by decide +kernel
theorem dX4_init_76 : decode cX4_init 76 = .ok (.aload_n 0, 1) := by decide +kernel
theorem dX4_init_77 : decode cX4_init 77 = .ok (.bipush 6, 2) := by decide +kernel
theorem dX4_init_79 : decode cX4_init 79 = .ok (.newarray .int, 2) := by decide +kernel
theorem dX4_init_81 : decode cX4_init 81 = .ok (.putfield 51, 3) := by decide +kernel
theorem dX4_init_84 : decode cX4_init 84 = .ok (.return_, 1) := by decide +kernel
theorem dX4_knot_0 : decode cX4_knot 0 = .ok (.iload_n 1, 1) := by decide +kernel
theorem dX4_knot_1 : decode cX4_knot 1 = .ok (.iconst 0, 1) := by decide +kernel
theorem dX4_knot_2 : decode cX4_knot 2 = .ok (.bipush 99, 2) := by decide +kernel
theorem dX4_knot_4 : decode cX4_knot 4 = .ok (.invokestatic 54, 3) := by decide +kernel
theorem dX4_knot_7 : decode cX4_knot 7 = .ok (.ifCond .eq 13, 3) := by decide +kernel
theorem dX4_knot_10 : decode cX4_knot 10 = .ok (.iload_n 2, 1) := by decide +kernel
theorem dX4_knot_11 : decode cX4_knot 11 = .ok (.iconst 0, 1) := by decide +kernel
theorem dX4_knot_12 : decode cX4_knot 12 = .ok (.bipush 99, 2) := by decide +kernel
theorem dX4_knot_14 : decode cX4_knot 14 = .ok (.invokestatic 54, 3) := by decide +kernel
theorem dX4_knot_17 : decode cX4_knot 17 = .ok (.ifCond .ne 5, 3) := by decide +kernel
theorem dX4_knot_20 : decode cX4_knot 20 = .ok (.iconst (-1), 1) := by decide +kernel
theorem dX4_knot_21 : decode cX4_knot 21 = .ok (.ireturn, 1) := by decide +kernel
theorem dX4_knot_22 : decode cX4_knot 22 = .ok (.aload_n 0, 1) := by decide +kernel
theorem dX4_knot_23 : decode cX4_knot 23 = .ok (.getfield 12, 3) := by decide +kernel
theorem dX4_knot_26 : decode cX4_knot 26 = .ok (.iload_n 1, 1) := by decide +kernel
theorem dX4_knot_27 : decode cX4_knot 27 = .ok (.iload_n 2, 1) := by decide +kernel
theorem dX4_knot_28 : decode cX4_knot 28 = .ok (.invokevirtual 58, 3) := by decide +kernel
theorem dX4_knot_31 : decode cX4_knot 31 = .ok (.ireturn, 1) := by decide +kernel
theorem dX4_road_0 : decode cX4_road 0 = .ok (.iload_n 1, 1) := by decide +kernel
theorem dX4_road_1 : decode cX4_road 1 = .ok (.bipush 100, 2) := by decide +kernel
theorem dX4_road_3 : decode cX4_road 3 = .ok (.idiv, 1) := by decide +kernel
theorem dX4_road_4 : decode cX4_road 4 = .ok (.istore 5, 2) := by decide +kernel
theorem dX4_road_6 : decode cX4_road 6 = .ok (.iload_n 1, 1) := by decide +kernel
theorem dX4_road_7 : decode cX4_road 7 = .ok (.bipush 100, 2) := by decide +kernel
theorem dX4_road_9 : decode cX4_road 9 = .ok (.irem, 1) := by decide +kernel
theorem dX4_road_10 : decode cX4_road 10 = .ok (.istore 6, 2) := by decide +kernel
theorem dX4_road_12 : decode cX4_road 12 = .ok (.aload_n 0, 1) := by decide +kernel
theorem dX4_road_13 : decode cX4_road 13 = .ok (.getfield 12, 3) := by decide +kernel
theorem dX4_road_16 : decode cX4_road 16 = .ok (.iload 5, 2) := by decide +kernel
theorem dX4_road_18 : decode cX4_road 18 = .ok (.invokevirtual 62, 3) := by decide +kernel
theorem dX4_road_21 : decode cX4_road 21 = .ok (.ifCond .eq 33, 3) := by decide +kernel
theorem dX4_road_24 : decode cX4_road 24 = .ok (.aload_n 0, 1) := by decide +kernel
theorem dX4_road_25 : decode cX4_road 25 = .ok (.getfield 12, 3) := by decide +kernel
theorem dX4_road_28 : decode cX4_road 28 = .ok (.iload 6, 2) := by decide +kernel
theorem dX4_road_30 : decode cX4_road 30 = .ok (.invokevirtual 62, 3) := by decide +kernel
theorem dX4_road_33 : decode cX4_road 33 = .ok (.ifCond .eq 21, 3) := by decide +kernel
theorem dX4_road_36 : decode cX4_road 36 = .ok (.iload 5, 2) := by decide +kernel
theorem dX4_road_38 : decode cX4_road 38 = .ok (.iload 6, 2) := by decide +kernel
theorem dX4_road_40 : decode cX4_road 40 = .ok (.if_icmp .eq 14, 3) := by decide +kernel
theorem dX4_road_43 : decode cX4_road 43 = .ok (.iload_n 2, 1) := by decide +kernel
theorem dX4_road_44 : decode cX4_road 44 = .ok (.iconst 1, 1) := by decide +kernel
theorem dX4_road_45 : decode cX4_road 45 = .ok (.sipush 200, 3) := by decide +kernel
theorem dX4_road_48 : decode cX4_road 48 = .ok (.invokestatic 54, 3) := by decide +kernel
theorem dX4_road_51 : decode cX4_road 51 = .ok (.ifCond .ne 5, 3) := by decide +kernel
theorem dX4_road_54 : decode cX4_road 54 = .ok (.iconst (-1), 1) := by decide +kernel
theorem dX4_road_55 : decode cX4_road 55 = .ok (.ireturn, 1) := by decide +kernel
theorem dX4_road_56 : decode cX4_road 56 = .ok (.iload_n 3, 1) := by decide +kernel
theorem dX4_road_57 : decode cX4_road 57 = .ok (.iconst 0, 1) := by decide +kernel
theorem dX4_road_58 : decode cX4_road 58 = .ok (.iconst 3, 1) := by decide +kernel
theorem dX4_road_59 : decode cX4_road 59 = .ok (.invokestatic 54, 3) := by decide +kernel
theorem dX4_road_62 : decode cX4_road 62 = .ok (.ifCond .eq 12, 3) := by decide +kernel
theorem dX4_road_65 : decode cX4_road 65 = .ok (.iload 4, 2) := by decide +kernel
theorem dX4_road_67 : decode cX4_road 67 = .ok (.iload_n 3, 1) := by decide +kernel
theorem dX4_road_68 : decode cX4_road 68 = .ok (.invokestatic 66, 3) := by decide +kernel
theorem dX4_road_71 : decode cX4_road 71 = .ok (.ifCond .ne 5, 3) := by decide +kernel
theorem dX4_road_74 : decode cX4_road 74 = .ok (.iconst (-1), 1) := by decide +kernel
theorem dX4_road_75 : decode cX4_road 75 = .ok (.ireturn, 1) := by decide +kernel
theorem dX4_road_76 : decode cX4_road 76 = .ok (.aload_n 0, 1) := by decide +kernel
theorem dX4_road_77 : decode cX4_road 77 = .ok (.invokevirtual 70, 3) := by decide +kernel
theorem dX4_road_80 : decode cX4_road 80 = .ok (.aload_n 0, 1) := by decide +kernel
theorem dX4_road_81 : decode cX4_road 81 = .ok (.getfield 12, 3) := by decide +kernel
theorem dX4_road_84 : decode cX4_road 84 = .ok (.iload 5, 2) := by decide +kernel
theorem dX4_road_86 : decode cX4_road 86 = .ok (.iload 6, 2) := by decide +kernel
theorem dX4_road_88 : decode cX4_road 88 = .ok (.iload_n 2, 1) := by decide +kernel
theorem dX4_road_89 : decode cX4_road 89 = .ok (.iload_n 3, 1) := by decide +kernel
theorem dX4_road_90 : decode cX4_road 90 = .ok (.iload 4, 2) := by decide +kernel
theorem dX4_road_92 : decode cX4_road 92 = .ok (.invokevirtual 73, 3) := by decide +kernel
theorem dX4_road_95 : decode cX4_road 95 = .ok (.ireturn, 1) := by decide +kernel
theorem dX4_bar_0 : decode cX4_bar 0 = .ok (.aload_n 0, 1) := by decide +kernel
theorem dX4_bar_1 : decode cX4_bar 1 = .ok (.getfield 12, 3) := by decide +kernel
theorem dX4_bar_4 : decode cX4_bar 4 = .ok (.iload_n 1, 1) := by decide +kernel
theorem dX4_bar_5 : decode cX4_bar 5 = .ok (.invokevirtual 77, 3) := by decide +kernel
theorem dX4_bar_8 : decode cX4_bar 8 = .ok (.ifCond .eq 35, 3) := by decide +kernel
theorem dX4_bar_11 : decode cX4_bar 11 = .ok (.aload_n 0, 1) := by decide +kernel
theorem dX4_bar_12 : decode cX4_bar 12 = .ok (.getfield 12, 3) := by decide +kernel
theorem dX4_bar_15 : decode cX4_bar 15 = .ok (.iload_n 2, 1) := by decide +kernel
theorem dX4_bar_16 : decode cX4_bar 16 = .ok (.invokevirtual 77, 3) := by decide +kernel
theorem dX4_bar_19 : decode cX4_bar 19 = .ok (.ifCond .eq 24, 3) := by decide +kernel
theorem dX4_bar_22 : decode cX4_bar 22 = .ok (.iload_n 3, 1) := by decide +kernel
theorem dX4_bar_23 : decode cX4_bar 23 = .ok (.iconst 0, 1) := by decide +kernel
theorem dX4_bar_24 : decode cX4_bar 24 = .ok (.iconst 1, 1) := by decide +kernel
theorem dX4_bar_25 : decode cX4_bar 25 = .ok (.invokestatic 54, 3) := by decide +kernel
theorem dX4_bar_28 : decode cX4_bar 28 = .ok (.ifCond .eq 15, 3) := by decide +kernel
theorem dX4_bar_31 : decode cX4_bar 31 = .ok (.aload_n 0, 1) := by decide +kernel
theorem dX4_bar_32 : decode cX4_bar 32 = .ok (.getfield 12, 3) := by decide +kernel
theorem dX4_bar_35 : decode cX4_bar 35 = .ok (.iload_n 1, 1) := by decide +kernel
theorem dX4_bar_36 : decode cX4_bar 36 = .ok (.iload_n 2, 1) := by decide +kernel
theorem dX4_bar_37 : decode cX4_bar 37 = .ok (.invokevirtual 80, 3) := by decide +kernel
theorem dX4_bar_40 : decode cX4_bar 40 = .ok (.ifCond .ne 5, 3) := by decide +kernel
theorem dX4_bar_43 : decode cX4_bar 43 = .ok (.iconst (-1), 1) := by decide +kernel
theorem dX4_bar_44 : decode cX4_bar 44 = .ok (.ireturn, 1) := by decide +kernel
theorem dX4_bar_45 : decode cX4_bar 45 = .ok (.aload_n 0, 1) := by decide +kernel
theorem dX4_bar_46 : decode cX4_bar 46 = .ok (.getfield 12, 3) := by decide +kernel
theorem dX4_bar_49 : decode cX4_bar 49 = .ok (.iload_n 1, 1) := by decide +kernel
theorem dX4_bar_50 : decode cX4_bar 50 = .ok (.iload_n 2, 1) := by decide +kernel
theorem dX4_bar_51 : decode cX4_bar 51 = .ok (.invokevirtual 83, 3) := by decide +kernel
theorem dX4_bar_54 : decode cX4_bar 54 = .ok (.ifCond .eq 7, 3) := by decide +kernel
theorem dX4_bar_57 : decode cX4_bar 57 = .ok (.iconst 1, 1) := by decide +kernel
theorem dX4_bar_58 : decode cX4_bar 58 = .ok (.goto 4, 3) := by decide +kernel
theorem dX4_bar_61 : decode cX4_bar 61 = .ok (.iconst 0, 1) := by decide +kernel
theorem dX4_bar_62 : decode cX4_bar 62 = .ok (.istore 4, 2) := by decide +kernel
theorem dX4_bar_64 : decode cX4_bar 64 = .ok (.iload 4, 2) := by decide +kernel
theorem dX4_bar_66 : decode cX4_bar 66 = .ok (.iload_n 3, 1) := by decide +kernel
theorem dX4_bar_67 : decode cX4_bar 67 = .ok (.if_icmp .eq 26, 3) := by decide +kernel
theorem dX4_bar_70 : decode cX4_bar 70 = .ok (.aload_n 0, 1) := by decide +kernel
theorem dX4_bar_71 : decode cX4_bar 71 = .ok (.invokevirtual 70, 3) := by decide +kernel
theorem dX4_bar_74 : decode cX4_bar 74 = .ok (.aload_n 0, 1) := by decide +kernel
theorem dX4_bar_75 : decode cX4_bar 75 = .ok (.getfield 12, 3) := by decide +kernel
theorem dX4_bar_78 : decode cX4_bar 78 = .ok (.iload_n 1, 1) := by decide +kernel
theorem dX4_bar_79 : decode cX4_bar 79 = .ok (.iload_n 2, 1) := by decide +kernel
theorem dX4_bar_80 : decode cX4_bar 80 = .ok (.iload_n 3, 1) := by decide +kernel
theorem dX4_bar_81 : decode cX4_bar 81 = .ok (.iconst 1, 1) := by decide +kernel
theorem dX4_bar_82 : decode cX4_bar 82 = .ok (.if_icmp .ne 7, 3) := by decide +kernel
theorem dX4_bar_85 : decode cX4_bar 85 = .ok (.iconst 1, 1) := by decide +kernel
theorem dX4_bar_86 : decode cX4_bar 86 = .ok (.goto 4, 3) := by decide +kernel
theorem dX4_bar_89 : decode cX4_bar 89 = .ok (.iconst 0, 1) := by decide +kernel
theorem dX4_bar_90 : decode cX4_bar 90 = .ok (.invokevirtual 86, 3) := by decide +kernel
theorem dX4_bar_93 : decode cX4_bar 93 = .ok (.iload 4, 2) := by decide +kernel
theorem dX4_bar_95 : decode cX4_bar 95 = .ok (.ireturn, 1) := by decide +kernel
theorem dX4_way_0 : decode cX4_way 0 = .ok (.aload_n 0, 1) := by decide +kernel
theorem dX4_way_1 : decode cX4_way 1 = .ok (.getfield 12, 3) := by decide +kernel
theorem dX4_way_4 : decode cX4_way 4 = .ok (.iload_n 1, 1) := by decide +kernel
theorem dX4_way_5 : decode cX4_way 5 = .ok (.invokevirtual 90, 3) := by decide +kernel
theorem dX4_way_8 : decode cX4_way 8 = .ok (.ifCond .eq 14, 3) := by decide +kernel
theorem dX4_way_11 : decode cX4_way 11 = .ok (.aload_n 0, 1) := by decide +kernel
theorem dX4_way_12 : decode cX4_way 12 = .ok (.getfield 12, 3) := by decide +kernel
theorem dX4_way_15 : decode cX4_way 15 = .ok (.iload_n 2, 1) := by decide +kernel
theorem dX4_way_16 : decode cX4_way 16 = .ok (.invokevirtual 90, 3) := by decide +kernel
theorem dX4_way_19 : decode cX4_way 19 = .ok (.ifCond .ne 5, 3) := by decide +kernel
theorem dX4_way_22 : decode cX4_way 22 = .ok (.iconst (-1), 1) := by decide +kernel
theorem dX4_way_23 : decode cX4_way 23 = .ok (.ireturn, 1) := by decide +kernel
theorem dX4_way_24 : decode cX4_way 24 = .ok (.aload_n 0, 1) := by decide +kernel
theorem dX4_way_25 : decode cX4_way 25 = .ok (.getfield 21, 3) := by decide +kernel
theorem dX4_way_28 : decode cX4_way 28 = .ok (.iload_n 1, 1) := by decide +kernel
theorem dX4_way_29 : decode cX4_way 29 = .ok (.iload_n 2, 1) := by decide +kernel
theorem dX4_way_30 : decode cX4_way 30 = .ok (.invokevirtual 93, 3) := by decide +kernel
theorem dX4_way_33 : decode cX4_way 33 = .ok (.istore_n 3, 1) := by decide +kernel
theorem dX4_way_34 : decode cX4_way 34 = .ok (.iload_n 3, 1) := by decide +kernel
theorem dX4_way_35 : decode cX4_way 35 = .ok (.ldc 96, 2) := by decide +kernel
theorem dX4_way_37 : decode cX4_way 37 = .ok (.if_icmp .ne 8, 3) := by decide +kernel
theorem dX4_way_40 : decode cX4_way 40 = .ok (.bipush (-4), 2) := by decide +kernel
theorem dX4_way_42 : decode cX4_way 42 = .ok (.goto 8, 3) := by decide +kernel
theorem dX4_way_45 : decode cX4_way 45 = .ok (.iload_n 3, 1) := by decide +kernel
theorem dX4_way_46 : decode cX4_way 46 = .ok (.sipush 10000, 3) := by decide +kernel
theorem dX4_way_49 : decode cX4_way 49 = .ok (.idiv, 1) := by decide +kernel
theorem dX4_way_50 : decode cX4_way 50 = .ok (.ireturn, 1) := by decide +kernel
theorem dX4_fees_0 : decode cX4_fees 0 = .ok (.aload_n 0, 1) := by decide +kernel
theorem dX4_fees_1 : decode cX4_fees 1 = .ok (.getfield 12, 3) := by decide +kernel
theorem dX4_fees_4 : decode cX4_fees 4 = .ok (.iload_n 1, 1) := by decide +kernel
theorem dX4_fees_5 : decode cX4_fees 5 = .ok (.invokevirtual 90, 3) := by decide +kernel
theorem dX4_fees_8 : decode cX4_fees 8 = .ok (.ifCond .eq 14, 3) := by decide +kernel
theorem dX4_fees_11 : decode cX4_fees 11 = .ok (.aload_n 0, 1) := by decide +kernel
theorem dX4_fees_12 : decode cX4_fees 12 = .ok (.getfield 12, 3) := by decide +kernel
theorem dX4_fees_15 : decode cX4_fees 15 = .ok (.iload_n 2, 1) := by decide +kernel
theorem dX4_fees_16 : decode cX4_fees 16 = .ok (.invokevirtual 90, 3) := by decide +kernel
theorem dX4_fees_19 : decode cX4_fees 19 = .ok (.ifCond .ne 5, 3) := by decide +kernel
theorem dX4_fees_22 : decode cX4_fees 22 = .ok (.iconst (-1), 1) := by decide +kernel
theorem dX4_fees_23 : decode cX4_fees 23 = .ok (.ireturn, 1) := by decide +kernel
theorem dX4_fees_24 : decode cX4_fees 24 = .ok (.aload_n 0, 1) := by decide +kernel
theorem dX4_fees_25 : decode cX4_fees 25 = .ok (.getfield 21, 3) := by decide +kernel
theorem dX4_fees_28 : decode cX4_fees 28 = .ok (.iload_n 1, 1) := by decide +kernel
theorem dX4_fees_29 : decode cX4_fees 29 = .ok (.iload_n 2, 1) := by decide +kernel
theorem dX4_fees_30 : decode cX4_fees 30 = .ok (.invokevirtual 93, 3) := by decide +kernel
theorem dX4_fees_33 : decode cX4_fees 33 = .ok (.istore_n 3, 1) := by decide +kernel
theorem dX4_fees_34 : decode cX4_fees 34 = .ok (.iload_n 3, 1) := by decide +kernel
theorem dX4_fees_35 : decode cX4_fees 35 = .ok (.ldc 96, 2) := by decide +kernel
theorem dX4_fees_37 : decode cX4_fees 37 = .ok (.if_icmp .ne 8, 3) := by decide +kernel
theorem dX4_fees_40 : decode cX4_fees 40 = .ok (.bipush (-4), 2) := by decide +kernel
theorem dX4_fees_42 : decode cX4_fees 42 = .ok (.goto 8, 3) := by decide +kernel
theorem dX4_fees_45 : decode cX4_fees 45 = .ok (.iload_n 3, 1) := by decide +kernel
theorem dX4_fees_46 : decode cX4_fees 46 = .ok (.sipush 10000, 3) := by decide +kernel
theorem dX4_fees_49 : decode cX4_fees 49 = .ok (.irem, 1) := by decide +kernel
theorem dX4_fees_50 : decode cX4_fees 50 = .ok (.ireturn, 1) := by decide +kernel
theorem dX4_drive_0 : decode cX4_drive 0 = .ok (.aload_n 0, 1) := by decide +kernel
theorem dX4_drive_1 : decode cX4_drive 1 = .ok (.getfield 40, 3) := by decide +kernel
theorem dX4_drive_4 : decode cX4_drive 4 = .ok (.bipush 6, 2) := by decide +kernel
theorem dX4_drive_6 : decode cX4_drive 6 = .ok (.if_icmp .lt 6, 3) := by decide +kernel
theorem dX4_drive_9 : decode cX4_drive 9 = .ok (.bipush (-2), 2) := by decide +kernel
theorem dX4_drive_11 : decode cX4_drive 11 = .ok (.ireturn, 1) := by decide +kernel
theorem dX4_drive_12 : decode cX4_drive 12 = .ok (.aload_n 0, 1) := by decide +kernel
theorem dX4_drive_13 : decode cX4_drive 13 = .ok (.getfield 36, 3) := by decide +kernel
theorem dX4_drive_16 : decode cX4_drive 16 = .ok (.aload_n 0, 1) := by decide +kernel
theorem dX4_drive_17 : decode cX4_drive 17 = .ok (.getfield 40, 3) := by decide +kernel
theorem dX4_drive_20 : decode cX4_drive 20 = .ok (.new 34, 3) := by decide +kernel
theorem dX4_drive_23 : decode cX4_drive 23 = .ok (.dup, 1) := by decide +kernel
theorem dX4_drive_24 : decode cX4_drive 24 = .ok (.invokespecial 97, 3) := by decide +kernel
theorem dX4_drive_27 : decode cX4_drive 27 = .ok (.aastore, 1) := by decide +kernel
theorem dX4_drive_28 : decode cX4_drive 28 = .ok (.aload_n 0, 1) := by decide +kernel
theorem dX4_drive_29 : decode cX4_drive 29 = .ok (.dup, 1) := by decide +kernel
theorem dX4_drive_30 : decode cX4_drive 30 = .ok (.getfield 40, 3) := by decide +kernel
theorem dX4_drive_33 : decode cX4_drive 33 = .ok (.iconst 1, 1) := by decide +kernel
theorem dX4_drive_34 : decode cX4_drive 34 = .ok (.iadd, 1) := by decide +kernel
theorem dX4_drive_35 : decode cX4_drive 35 = .ok (.putfield 40, 3) := by decide +kernel
theorem dX4_drive_38 : decode cX4_drive 38 = .ok (.aload_n 0, 1) := by decide +kernel
theorem dX4_drive_39 : decode cX4_drive 39 = .ok (.getfield 40, 3) := by decide +kernel
theorem dX4_drive_42 : decode cX4_drive 42 = .ok (.iconst 1, 1) := by decide +kernel
theorem dX4_drive_43 : decode cX4_drive 43 = .ok (.isub, 1) := by decide +kernel
theorem dX4_drive_44 : decode cX4_drive 44 = .ok (.ireturn, 1) := by decide +kernel
theorem dX4_sight_0 : decode cX4_sight 0 = .ok (.aload_n 0, 1) := by decide +kernel
theorem dX4_sight_1 : decode cX4_sight 1 = .ok (.iload_n 1, 1) := by decide +kernel
theorem dX4_sight_2 : decode cX4_sight 2 = .ok (.invokevirtual 98, 3) := by decide +kernel
theorem dX4_sight_5 : decode cX4_sight 5 = .ok (.astore 5, 2) := by decide +kernel
theorem dX4_sight_7 : decode cX4_sight 7 = .ok (.aload 5, 2) := by decide +kernel
theorem dX4_sight_9 : decode cX4_sight 9 = .ok (.ifnull 25, 3) := by decide +kernel
theorem dX4_sight_12 : decode cX4_sight 12 = .ok (.iload_n 2, 1) := by decide +kernel
theorem dX4_sight_13 : decode cX4_sight 13 = .ok (.iconst 0, 1) := by decide +kernel
theorem dX4_sight_14 : decode cX4_sight 14 = .ok (.sipush 9999, 3) := by decide +kernel
theorem dX4_sight_17 : decode cX4_sight 17 = .ok (.invokestatic 54, 3) := by decide +kernel
theorem dX4_sight_20 : decode cX4_sight 20 = .ok (.ifCond .eq 14, 3) := by decide +kernel
theorem dX4_sight_23 : decode cX4_sight 23 = .ok (.iload 4, 2) := by decide +kernel
theorem dX4_sight_25 : decode cX4_sight 25 = .ok (.iconst 0, 1) := by decide +kernel
theorem dX4_sight_26 : decode cX4_sight 26 = .ok (.bipush 60, 2) := by decide +kernel
theorem dX4_sight_28 : decode cX4_sight 28 = .ok (.invokestatic 54, 3) := by decide +kernel
theorem dX4_sight_31 : decode cX4_sight 31 = .ok (.ifCond .ne 5, 3) := by decide +kernel
theorem dX4_sight_34 : decode cX4_sight 34 = .ok (.iconst (-1), 1) := by decide +kernel
theorem dX4_sight_35 : decode cX4_sight 35 = .ok (.ireturn, 1) := by decide +kernel
theorem dX4_sight_36 : decode cX4_sight 36 = .ok (.iload_n 3, 1) := by decide +kernel
theorem dX4_sight_37 : decode cX4_sight 37 = .ok (.iconst 0, 1) := by decide +kernel
theorem dX4_sight_38 : decode cX4_sight 38 = .ok (.sipush 10000, 3) := by decide +kernel
theorem dX4_sight_41 : decode cX4_sight 41 = .ok (.invokestatic 54, 3) := by decide +kernel
theorem dX4_sight_44 : decode cX4_sight 44 = .ok (.ifCond .eq 12, 3) := by decide +kernel
theorem dX4_sight_47 : decode cX4_sight 47 = .ok (.iload_n 3, 1) := by decide +kernel
theorem dX4_sight_48 : decode cX4_sight 48 = .ok (.aload 5, 2) := by decide +kernel
theorem dX4_sight_50 : decode cX4_sight 50 = .ok (.invokevirtual 102, 3) := by decide +kernel
theorem dX4_sight_53 : decode cX4_sight 53 = .ok (.if_icmp .gt 5, 3) := by decide +kernel
theorem dX4_sight_56 : decode cX4_sight 56 = .ok (.iconst (-1), 1) := by decide +kernel
theorem dX4_sight_57 : decode cX4_sight 57 = .ok (.ireturn, 1) := by decide +kernel
theorem dX4_sight_58 : decode cX4_sight 58 = .ok (.aload_n 0, 1) := by decide +kernel
theorem dX4_sight_59 : decode cX4_sight 59 = .ok (.getfield 30, 3) := by decide +kernel
theorem dX4_sight_62 : decode cX4_sight 62 = .ok (.invokevirtual 106, 3) := by decide +kernel
theorem dX4_sight_65 : decode cX4_sight 65 = .ok (.aload 5, 2) := by decide +kernel
theorem dX4_sight_67 : decode cX4_sight 67 = .ok (.iload_n 2, 1) := by decide +kernel
theorem dX4_sight_68 : decode cX4_sight 68 = .ok (.bipush 100, 2) := by decide +kernel
theorem dX4_sight_70 : decode cX4_sight 70 = .ok (.idiv, 1) := by decide +kernel
theorem dX4_sight_71 : decode cX4_sight 71 = .ok (.iload_n 2, 1) := by decide +kernel
theorem dX4_sight_72 : decode cX4_sight 72 = .ok (.bipush 100, 2) := by decide +kernel
theorem dX4_sight_74 : decode cX4_sight 74 = .ok (.irem, 1) := by decide +kernel
theorem dX4_sight_75 : decode cX4_sight 75 = .ok (.iload_n 3, 1) := by decide +kernel
theorem dX4_sight_76 : decode cX4_sight 76 = .ok (.iload 4, 2) := by decide +kernel
theorem dX4_sight_78 : decode cX4_sight 78 = .ok (.invokevirtual 109, 3) := by decide +kernel
theorem dX4_sight_81 : decode cX4_sight 81 = .ok (.ireturn, 1) := by decide +kernel
theorem dX4_drop_0 : decode cX4_drop 0 = .ok (.aload_n 0, 1) := by decide +kernel
theorem dX4_drop_1 : decode cX4_drop 1 = .ok (.iload_n 1, 1) := by decide +kernel
theorem dX4_drop_2 : decode cX4_drop 2 = .ok (.invokevirtual 98, 3) := by decide +kernel
theorem dX4_drop_5 : decode cX4_drop 5 = .ok (.astore_n 2, 1) := by decide +kernel
theorem dX4_drop_6 : decode cX4_drop 6 = .ok (.aload_n 2, 1) := by decide +kernel
theorem dX4_drop_7 : decode cX4_drop 7 = .ok (.ifnonnull 5, 3) := by decide +kernel
theorem dX4_drop_10 : decode cX4_drop 10 = .ok (.iconst (-1), 1) := by decide +kernel
theorem dX4_drop_11 : decode cX4_drop 11 = .ok (.ireturn, 1) := by decide +kernel
theorem dX4_drop_12 : decode cX4_drop 12 = .ok (.aload_n 2, 1) := by decide +kernel
theorem dX4_drop_13 : decode cX4_drop 13 = .ok (.getfield 113, 3) := by decide +kernel
theorem dX4_drop_16 : decode cX4_drop 16 = .ok (.ifCond .ne 6, 3) := by decide +kernel
theorem dX4_drop_19 : decode cX4_drop 19 = .ok (.bipush (-3), 2) := by decide +kernel
theorem dX4_drop_21 : decode cX4_drop 21 = .ok (.ireturn, 1) := by decide +kernel
theorem dX4_drop_22 : decode cX4_drop 22 = .ok (.aload_n 0, 1) := by decide +kernel
theorem dX4_drop_23 : decode cX4_drop 23 = .ok (.getfield 30, 3) := by decide +kernel
theorem dX4_drop_26 : decode cX4_drop 26 = .ok (.invokevirtual 106, 3) := by decide +kernel
theorem dX4_drop_29 : decode cX4_drop 29 = .ok (.aload_n 2, 1) := by decide +kernel
theorem dX4_drop_30 : decode cX4_drop 30 = .ok (.dup, 1) := by decide +kernel
theorem dX4_drop_31 : decode cX4_drop 31 = .ok (.getfield 113, 3) := by decide +kernel
theorem dX4_drop_34 : decode cX4_drop 34 = .ok (.iconst 1, 1) := by decide +kernel
theorem dX4_drop_35 : decode cX4_drop 35 = .ok (.isub, 1) := by decide +kernel
theorem dX4_drop_36 : decode cX4_drop 36 = .ok (.putfield 113, 3) := by decide +kernel
theorem dX4_drop_39 : decode cX4_drop 39 = .ok (.aload_n 2, 1) := by decide +kernel
theorem dX4_drop_40 : decode cX4_drop 40 = .ok (.getfield 113, 3) := by decide +kernel
theorem dX4_drop_43 : decode cX4_drop 43 = .ok (.ireturn, 1) := by decide +kernel
theorem dX4_prices_0 : decode cX4_prices 0 = .ok (.iload_n 1, 1) := by decide +kernel
theorem dX4_prices_1 : decode cX4_prices 1 = .ok (.iconst 1, 1) := by decide +kernel
theorem dX4_prices_2 : decode cX4_prices 2 = .ok (.bipush 100, 2) := by decide +kernel
theorem dX4_prices_4 : decode cX4_prices 4 = .ok (.invokestatic 54, 3) := by decide +kernel
theorem dX4_prices_7 : decode cX4_prices 7 = .ok (.ifCond .eq 14, 3) := by decide +kernel
theorem dX4_prices_10 : decode cX4_prices 10 = .ok (.iload_n 2, 1) := by decide +kernel
theorem dX4_prices_11 : decode cX4_prices 11 = .ok (.iconst 1, 1) := by decide +kernel
theorem dX4_prices_12 : decode cX4_prices 12 = .ok (.sipush 9999, 3) := by decide +kernel
theorem dX4_prices_15 : decode cX4_prices 15 = .ok (.invokestatic 54, 3) := by decide +kernel
theorem dX4_prices_18 : decode cX4_prices 18 = .ok (.ifCond .ne 5, 3) := by decide +kernel
theorem dX4_prices_21 : decode cX4_prices 21 = .ok (.iconst (-1), 1) := by decide +kernel
theorem dX4_prices_22 : decode cX4_prices 22 = .ok (.ireturn, 1) := by decide +kernel
theorem dX4_prices_23 : decode cX4_prices 23 = .ok (.aload_n 0, 1) := by decide +kernel
theorem dX4_prices_24 : decode cX4_prices 24 = .ok (.getfield 30, 3) := by decide +kernel
theorem dX4_prices_27 : decode cX4_prices 27 = .ok (.invokevirtual 106, 3) := by decide +kernel
theorem dX4_prices_30 : decode cX4_prices 30 = .ok (.aload_n 0, 1) := by decide +kernel
theorem dX4_prices_31 : decode cX4_prices 31 = .ok (.getfield 30, 3) := by decide +kernel
theorem dX4_prices_34 : decode cX4_prices 34 = .ok (.iload_n 1, 1) := by decide +kernel
theorem dX4_prices_35 : decode cX4_prices 35 = .ok (.putfield 116, 3) := by decide +kernel
theorem dX4_prices_38 : decode cX4_prices 38 = .ok (.aload_n 0, 1) := by decide +kernel
theorem dX4_prices_39 : decode cX4_prices 39 = .ok (.getfield 30, 3) := by decide +kernel
theorem dX4_prices_42 : decode cX4_prices 42 = .ok (.iload_n 2, 1) := by decide +kernel
theorem dX4_prices_43 : decode cX4_prices 43 = .ok (.putfield 119, 3) := by decide +kernel
theorem dX4_prices_46 : decode cX4_prices 46 = .ok (.iconst 1, 1) := by decide +kernel
theorem dX4_prices_47 : decode cX4_prices 47 = .ok (.ireturn, 1) := by decide +kernel
theorem dX4_spot_0 : decode cX4_spot 0 = .ok (.aload_n 0, 1) := by decide +kernel
theorem dX4_spot_1 : decode cX4_spot 1 = .ok (.iload_n 1, 1) := by decide +kernel
theorem dX4_spot_2 : decode cX4_spot 2 = .ok (.invokevirtual 98, 3) := by decide +kernel
theorem dX4_spot_5 : decode cX4_spot 5 = .ok (.astore 4, 2) := by decide +kernel
theorem dX4_spot_7 : decode cX4_spot 7 = .ok (.aload 4, 2) := by decide +kernel
theorem dX4_spot_9 : decode cX4_spot 9 = .ok (.ifnull 12, 3) := by decide +kernel
theorem dX4_spot_12 : decode cX4_spot 12 = .ok (.aload 4, 2) := by decide +kernel
theorem dX4_spot_14 : decode cX4_spot 14 = .ok (.iload_n 2, 1) := by decide +kernel
theorem dX4_spot_15 : decode cX4_spot 15 = .ok (.invokevirtual 122, 3) := by decide +kernel
theorem dX4_spot_18 : decode cX4_spot 18 = .ok (.ifCond .ne 5, 3) := by decide +kernel
theorem dX4_spot_21 : decode cX4_spot 21 = .ok (.iconst (-1), 1) := by decide +kernel
theorem dX4_spot_22 : decode cX4_spot 22 = .ok (.ireturn, 1) := by decide +kernel
theorem dX4_spot_23 : decode cX4_spot 23 = .ok (.aload_n 0, 1) := by decide +kernel
theorem dX4_spot_24 : decode cX4_spot 24 = .ok (.getfield 30, 3) := by decide +kernel
theorem dX4_spot_27 : decode cX4_spot 27 = .ok (.aload 4, 2) := by decide +kernel
theorem dX4_spot_29 : decode cX4_spot 29 = .ok (.invokevirtual 125, 3) := by decide +kernel
theorem dX4_spot_32 : decode cX4_spot 32 = .ok (.aload_n 0, 1) := by decide +kernel
theorem dX4_spot_33 : decode cX4_spot 33 = .ok (.getfield 30, 3) := by decide +kernel
theorem dX4_spot_36 : decode cX4_spot 36 = .ok (.getfield 129, 3) := by decide +kernel
theorem dX4_spot_39 : decode cX4_spot 39 = .ok (.iload_n 2, 1) := by decide +kernel
theorem dX4_spot_40 : decode cX4_spot 40 = .ok (.iaload, 1) := by decide +kernel
theorem dX4_spot_41 : decode cX4_spot 41 = .ok (.istore 5, 2) := by decide +kernel
theorem dX4_spot_43 : decode cX4_spot 43 = .ok (.iload_n 3, 1) := by decide +kernel
theorem dX4_spot_44 : decode cX4_spot 44 = .ok (.iconst (-1), 1) := by decide +kernel
theorem dX4_spot_45 : decode cX4_spot 45 = .ok (.if_icmp .ne 6, 3) := by decide +kernel
theorem dX4_spot_48 : decode cX4_spot 48 = .ok (.iload 5, 2) := by decide +kernel
theorem dX4_spot_50 : decode cX4_spot 50 = .ok (.ireturn, 1) := by decide +kernel
theorem dX4_spot_51 : decode cX4_spot 51 = .ok (.iload_n 3, 1) := by decide +kernel
theorem dX4_spot_52 : decode cX4_spot 52 = .ok (.ifCond .lt 26, 3) := by decide +kernel
theorem dX4_spot_55 : decode cX4_spot 55 = .ok (.iload_n 3, 1) := by decide +kernel
theorem dX4_spot_56 : decode cX4_spot 56 = .ok (.iload 5, 2) := by decide +kernel
theorem dX4_spot_58 : decode cX4_spot 58 = .ok (.if_icmp .ge 20, 3) := by decide +kernel
theorem dX4_spot_61 : decode cX4_spot 61 = .ok (.aload_n 0, 1) := by decide +kernel
theorem dX4_spot_62 : decode cX4_spot 62 = .ok (.getfield 30, 3) := by decide +kernel
theorem dX4_spot_65 : decode cX4_spot 65 = .ok (.getfield 132, 3) := by decide +kernel
theorem dX4_spot_68 : decode cX4_spot 68 = .ok (.iload_n 2, 1) := by decide +kernel
theorem dX4_spot_69 : decode cX4_spot 69 = .ok (.bipush 10, 2) := by decide +kernel
theorem dX4_spot_71 : decode cX4_spot 71 = .ok (.imul, 1) := by decide +kernel
theorem dX4_spot_72 : decode cX4_spot 72 = .ok (.iload_n 3, 1) := by decide +kernel
theorem dX4_spot_73 : decode cX4_spot 73 = .ok (.iadd, 1) := by decide +kernel
theorem dX4_spot_74 : decode cX4_spot 74 = .ok (.iaload, 1) := by decide +kernel
theorem dX4_spot_75 : decode cX4_spot 75 = .ok (.goto 4, 3) := by decide +kernel
theorem dX4_spot_78 : decode cX4_spot 78 = .ok (.iconst (-1), 1) := by decide +kernel
theorem dX4_spot_79 : decode cX4_spot 79 = .ok (.ireturn, 1) := by decide +kernel
theorem dX4_off_0 : decode cX4_off 0 = .ok (.aload_n 0, 1) := by decide +kernel
theorem dX4_off_1 : decode cX4_off 1 = .ok (.iload_n 1, 1) := by decide +kernel
theorem dX4_off_2 : decode cX4_off 2 = .ok (.invokevirtual 98, 3) := by decide +kernel
theorem dX4_off_5 : decode cX4_off 5 = .ok (.astore 4, 2) := by decide +kernel
theorem dX4_off_7 : decode cX4_off 7 = .ok (.aload 4, 2) := by decide +kernel
theorem dX4_off_9 : decode cX4_off 9 = .ok (.ifnull 23, 3) := by decide +kernel
theorem dX4_off_12 : decode cX4_off 12 = .ok (.aload 4, 2) := by decide +kernel
theorem dX4_off_14 : decode cX4_off 14 = .ok (.iload_n 2, 1) := by decide +kernel
theorem dX4_off_15 : decode cX4_off 15 = .ok (.invokevirtual 122, 3) := by decide +kernel
theorem dX4_off_18 : decode cX4_off 18 = .ok (.ifCond .eq 14, 3) := by decide +kernel
theorem dX4_off_21 : decode cX4_off 21 = .ok (.aload_n 0, 1) := by decide +kernel
theorem dX4_off_22 : decode cX4_off 22 = .ok (.getfield 12, 3) := by decide +kernel
theorem dX4_off_25 : decode cX4_off 25 = .ok (.iload_n 3, 1) := by decide +kernel
theorem dX4_off_26 : decode cX4_off 26 = .ok (.invokevirtual 90, 3) := by decide +kernel
theorem dX4_off_29 : decode cX4_off 29 = .ok (.ifCond .ne 5, 3) := by decide +kernel
theorem dX4_off_32 : decode cX4_off 32 = .ok (.iconst (-1), 1) := by decide +kernel
theorem dX4_off_33 : decode cX4_off 33 = .ok (.ireturn, 1) := by decide +kernel
theorem dX4_off_34 : decode cX4_off 34 = .ok (.aload_n 0, 1) := by decide +kernel
theorem dX4_off_35 : decode cX4_off 35 = .ok (.getfield 12, 3) := by decide +kernel
theorem dX4_off_38 : decode cX4_off 38 = .ok (.iload_n 3, 1) := by decide +kernel
theorem dX4_off_39 : decode cX4_off 39 = .ok (.aload 4, 2) := by decide +kernel
theorem dX4_off_41 : decode cX4_off 41 = .ok (.getfield 135, 3) := by decide +kernel
theorem dX4_off_44 : decode cX4_off 44 = .ok (.iload_n 2, 1) := by decide +kernel
theorem dX4_off_45 : decode cX4_off 45 = .ok (.iaload, 1) := by decide +kernel
theorem dX4_off_46 : decode cX4_off 46 = .ok (.aload 4, 2) := by decide +kernel
theorem dX4_off_48 : decode cX4_off 48 = .ok (.getfield 138, 3) := by decide +kernel
theorem dX4_off_51 : decode cX4_off 51 = .ok (.iload_n 2, 1) := by decide +kernel
theorem dX4_off_52 : decode cX4_off 52 = .ok (.iaload, 1) := by decide +kernel
theorem dX4_off_53 : decode cX4_off 53 = .ok (.invokevirtual 141, 3) := by decide +kernel
theorem dX4_off_56 : decode cX4_off 56 = .ok (.ireturn, 1) := by decide +kernel
theorem dX4_cost_0 : decode cX4_cost 0 = .ok (.aload_n 0, 1) := by decide +kernel
theorem dX4_cost_1 : decode cX4_cost 1 = .ok (.getfield 30, 3) := by decide +kernel
theorem dX4_cost_4 : decode cX4_cost 4 = .ok (.aload_n 0, 1) := by decide +kernel
theorem dX4_cost_5 : decode cX4_cost 5 = .ok (.iload_n 1, 1) := by decide +kernel
theorem dX4_cost_6 : decode cX4_cost 6 = .ok (.invokevirtual 98, 3) := by decide +kernel
theorem dX4_cost_9 : decode cX4_cost 9 = .ok (.invokevirtual 145, 3) := by decide +kernel
theorem dX4_cost_12 : decode cX4_cost 12 = .ok (.ireturn, 1) := by decide +kernel
theorem dX4_laid_0 : decode cX4_laid 0 = .ok (.aload_n 0, 1) := by decide +kernel
theorem dX4_laid_1 : decode cX4_laid 1 = .ok (.iload_n 1, 1) := by decide +kernel
theorem dX4_laid_2 : decode cX4_laid 2 = .ok (.invokevirtual 98, 3) := by decide +kernel
theorem dX4_laid_5 : decode cX4_laid 5 = .ok (.astore_n 3, 1) := by decide +kernel
theorem dX4_laid_6 : decode cX4_laid 6 = .ok (.aload_n 3, 1) := by decide +kernel
theorem dX4_laid_7 : decode cX4_laid 7 = .ok (.ifnull 11, 3) := by decide +kernel
theorem dX4_laid_10 : decode cX4_laid 10 = .ok (.aload_n 3, 1) := by decide +kernel
theorem dX4_laid_11 : decode cX4_laid 11 = .ok (.iload_n 2, 1) := by decide +kernel
theorem dX4_laid_12 : decode cX4_laid 12 = .ok (.invokevirtual 122, 3) := by decide +kernel
theorem dX4_laid_15 : decode cX4_laid 15 = .ok (.ifCond .ne 5, 3) := by decide +kernel
theorem dX4_laid_18 : decode cX4_laid 18 = .ok (.iconst (-1), 1) := by decide +kernel
theorem dX4_laid_19 : decode cX4_laid 19 = .ok (.ireturn, 1) := by decide +kernel
theorem dX4_laid_20 : decode cX4_laid 20 = .ok (.aload_n 0, 1) := by decide +kernel
theorem dX4_laid_21 : decode cX4_laid 21 = .ok (.getfield 30, 3) := by decide +kernel
theorem dX4_laid_24 : decode cX4_laid 24 = .ok (.aload_n 3, 1) := by decide +kernel
theorem dX4_laid_25 : decode cX4_laid 25 = .ok (.invokevirtual 145, 3) := by decide +kernel
theorem dX4_laid_28 : decode cX4_laid 28 = .ok (.pop, 1) := by decide +kernel
theorem dX4_laid_29 : decode cX4_laid 29 = .ok (.aload_n 0, 1) := by decide +kernel
theorem dX4_laid_30 : decode cX4_laid 30 = .ok (.getfield 30, 3) := by decide +kernel
theorem dX4_laid_33 : decode cX4_laid 33 = .ok (.getfield 149, 3) := by decide +kernel
theorem dX4_laid_36 : decode cX4_laid 36 = .ok (.iload_n 2, 1) := by decide +kernel
theorem dX4_laid_37 : decode cX4_laid 37 = .ok (.iaload, 1) := by decide +kernel
theorem dX4_laid_38 : decode cX4_laid 38 = .ok (.ireturn, 1) := by decide +kernel
theorem dX4_check_0 : decode cX4_check 0 = .ok (.aload_n 0, 1) := by decide +kernel
theorem dX4_check_1 : decode cX4_check 1 = .ok (.iload_n 1, 1) := by decide +kernel
theorem dX4_check_2 : decode cX4_check 2 = .ok (.invokevirtual 98, 3) := by decide +kernel
theorem dX4_check_5 : decode cX4_check 5 = .ok (.astore_n 2, 1) := by decide +kernel
theorem dX4_check_6 : decode cX4_check 6 = .ok (.aload_n 2, 1) := by decide +kernel
theorem dX4_check_7 : decode cX4_check 7 = .ok (.ifnonnull 5, 3) := by decide +kernel
theorem dX4_check_10 : decode cX4_check 10 = .ok (.iconst (-1), 1) := by decide +kernel
theorem dX4_check_11 : decode cX4_check 11 = .ok (.ireturn, 1) := by decide +kernel
theorem dX4_check_12 : decode cX4_check 12 = .ok (.aload_n 0, 1) := by decide +kernel
theorem dX4_check_13 : decode cX4_check 13 = .ok (.getfield 48, 3) := by decide +kernel
theorem dX4_check_16 : decode cX4_check 16 = .ok (.istore_n 3, 1) := by decide +kernel
theorem dX4_check_17 : decode cX4_check 17 = .ok (.aload_n 0, 1) := by decide +kernel
theorem dX4_check_18 : decode cX4_check 18 = .ok (.iconst 0, 1) := by decide +kernel
theorem dX4_check_19 : decode cX4_check 19 = .ok (.putfield 48, 3) := by decide +kernel
theorem dX4_check_22 : decode cX4_check 22 = .ok (.iload_n 3, 1) := by decide +kernel
theorem dX4_check_23 : decode cX4_check 23 = .ok (.aload_n 2, 1) := by decide +kernel
theorem dX4_check_24 : decode cX4_check 24 = .ok (.getfield 113, 3) := by decide +kernel
theorem dX4_check_27 : decode cX4_check 27 = .ok (.if_icmp .eq 6, 3) := by decide +kernel
theorem dX4_check_30 : decode cX4_check 30 = .ok (.bipush (-3), 2) := by decide +kernel
theorem dX4_check_32 : decode cX4_check 32 = .ok (.ireturn, 1) := by decide +kernel
theorem dX4_check_33 : decode cX4_check 33 = .ok (.aload_n 0, 1) := by decide +kernel
theorem dX4_check_34 : decode cX4_check 34 = .ok (.getfield 30, 3) := by decide +kernel
theorem dX4_check_37 : decode cX4_check 37 = .ok (.aload_n 2, 1) := by decide +kernel
theorem dX4_check_38 : decode cX4_check 38 = .ok (.invokevirtual 125, 3) := by decide +kernel
theorem dX4_check_41 : decode cX4_check 41 = .ok (.aload_n 0, 1) := by decide +kernel
theorem dX4_check_42 : decode cX4_check 42 = .ok (.getfield 30, 3) := by decide +kernel
theorem dX4_check_45 : decode cX4_check 45 = .ok (.aload_n 0, 1) := by decide +kernel
theorem dX4_check_46 : decode cX4_check 46 = .ok (.getfield 44, 3) := by decide +kernel
theorem dX4_check_49 : decode cX4_check 49 = .ok (.invokevirtual 152, 3) := by decide +kernel
theorem dX4_check_52 : decode cX4_check 52 = .ok (.ifCond .eq 17, 3) := by decide +kernel
theorem dX4_check_55 : decode cX4_check 55 = .ok (.aload_n 0, 1) := by decide +kernel
theorem dX4_check_56 : decode cX4_check 56 = .ok (.getfield 30, 3) := by decide +kernel
theorem dX4_check_59 : decode cX4_check 59 = .ok (.aload_n 0, 1) := by decide +kernel
theorem dX4_check_60 : decode cX4_check 60 = .ok (.getfield 44, 3) := by decide +kernel
theorem dX4_check_63 : decode cX4_check 63 = .ok (.invokevirtual 156, 3) := by decide +kernel
theorem dX4_check_66 : decode cX4_check 66 = .ok (.goto 5, 3) := by decide +kernel
theorem dX4_check_69 : decode cX4_check 69 = .ok (.bipush (-3), 2) := by decide +kernel
theorem dX4_check_71 : decode cX4_check 71 = .ok (.ireturn, 1) := by decide +kernel
theorem dX4_list_0 : decode cX4_list 0 = .ok (.iload_n 1, 1) := by decide +kernel
theorem dX4_list_1 : decode cX4_list 1 = .ok (.bipush (-5), 2) := by decide +kernel
theorem dX4_list_3 : decode cX4_list 3 = .ok (.if_icmp .eq 16, 3) := by decide +kernel
theorem dX4_list_6 : decode cX4_list 6 = .ok (.aload_n 0, 1) := by decide +kernel
theorem dX4_list_7 : decode cX4_list 7 = .ok (.getfield 12, 3) := by decide +kernel
theorem dX4_list_10 : decode cX4_list 10 = .ok (.iload_n 1, 1) := by decide +kernel
theorem dX4_list_11 : decode cX4_list 11 = .ok (.invokevirtual 90, 3) := by decide +kernel
theorem dX4_list_14 : decode cX4_list 14 = .ok (.ifCond .ne 5, 3) := by decide +kernel
theorem dX4_list_17 : decode cX4_list 17 = .ok (.iconst (-1), 1) := by decide +kernel
theorem dX4_list_18 : decode cX4_list 18 = .ok (.ireturn, 1) := by decide +kernel
theorem dX4_list_19 : decode cX4_list 19 = .ok (.aload_n 0, 1) := by decide +kernel
theorem dX4_list_20 : decode cX4_list 20 = .ok (.getfield 48, 3) := by decide +kernel
theorem dX4_list_23 : decode cX4_list 23 = .ok (.bipush 20, 2) := by decide +kernel
theorem dX4_list_25 : decode cX4_list 25 = .ok (.if_icmp .lt 6, 3) := by decide +kernel
theorem dX4_list_28 : decode cX4_list 28 = .ok (.bipush (-2), 2) := by decide +kernel
theorem dX4_list_30 : decode cX4_list 30 = .ok (.ireturn, 1) := by decide +kernel
theorem dX4_list_31 : decode cX4_list 31 = .ok (.aload_n 0, 1) := by decide +kernel
theorem dX4_list_32 : decode cX4_list 32 = .ok (.getfield 44, 3) := by decide +kernel
theorem dX4_list_35 : decode cX4_list 35 = .ok (.aload_n 0, 1) := by decide +kernel
theorem dX4_list_36 : decode cX4_list 36 = .ok (.getfield 48, 3) := by decide +kernel
theorem dX4_list_39 : decode cX4_list 39 = .ok (.iload_n 1, 1) := by decide +kernel
theorem dX4_list_40 : decode cX4_list 40 = .ok (.iastore, 1) := by decide +kernel
theorem dX4_list_41 : decode cX4_list 41 = .ok (.aload_n 0, 1) := by decide +kernel
theorem dX4_list_42 : decode cX4_list 42 = .ok (.dup, 1) := by decide +kernel
theorem dX4_list_43 : decode cX4_list 43 = .ok (.getfield 48, 3) := by decide +kernel
theorem dX4_list_46 : decode cX4_list 46 = .ok (.iconst 1, 1) := by decide +kernel
theorem dX4_list_47 : decode cX4_list 47 = .ok (.iadd, 1) := by decide +kernel
theorem dX4_list_48 : decode cX4_list 48 = .ok (.putfield 48, 3) := by decide +kernel
theorem dX4_list_51 : decode cX4_list 51 = .ok (.aload_n 0, 1) := by decide +kernel
theorem dX4_list_52 : decode cX4_list 52 = .ok (.getfield 48, 3) := by decide +kernel
theorem dX4_list_55 : decode cX4_list 55 = .ok (.ireturn, 1) := by decide +kernel
theorem dX4_sure_0 : decode cX4_sure 0 = .ok (.aload_n 0, 1) := by decide +kernel
theorem dX4_sure_1 : decode cX4_sure 1 = .ok (.iload_n 1, 1) := by decide +kernel
theorem dX4_sure_2 : decode cX4_sure 2 = .ok (.invokevirtual 98, 3) := by decide +kernel
theorem dX4_sure_5 : decode cX4_sure 5 = .ok (.astore_n 3, 1) := by decide +kernel
theorem dX4_sure_6 : decode cX4_sure 6 = .ok (.aload_n 3, 1) := by decide +kernel
theorem dX4_sure_7 : decode cX4_sure 7 = .ok (.ifnull 13, 3) := by decide +kernel
theorem dX4_sure_10 : decode cX4_sure 10 = .ok (.iload_n 2, 1) := by decide +kernel
theorem dX4_sure_11 : decode cX4_sure 11 = .ok (.iconst 0, 1) := by decide +kernel
theorem dX4_sure_12 : decode cX4_sure 12 = .ok (.ldc 160, 2) := by decide +kernel
theorem dX4_sure_14 : decode cX4_sure 14 = .ok (.invokestatic 54, 3) := by decide +kernel
theorem dX4_sure_17 : decode cX4_sure 17 = .ok (.ifCond .ne 5, 3) := by decide +kernel
theorem dX4_sure_20 : decode cX4_sure 20 = .ok (.iconst (-1), 1) := by decide +kernel
theorem dX4_sure_21 : decode cX4_sure 21 = .ok (.ireturn, 1) := by decide +kernel
theorem dX4_sure_22 : decode cX4_sure 22 = .ok (.aload_n 0, 1) := by decide +kernel
theorem dX4_sure_23 : decode cX4_sure 23 = .ok (.getfield 30, 3) := by decide +kernel
theorem dX4_sure_26 : decode cX4_sure 26 = .ok (.aload_n 0, 1) := by decide +kernel
theorem dX4_sure_27 : decode cX4_sure 27 = .ok (.getfield 30, 3) := by decide +kernel
theorem dX4_sure_30 : decode cX4_sure 30 = .ok (.aload_n 3, 1) := by decide +kernel
theorem dX4_sure_31 : decode cX4_sure 31 = .ok (.invokevirtual 145, 3) := by decide +kernel
theorem dX4_sure_34 : decode cX4_sure 34 = .ok (.iload_n 2, 1) := by decide +kernel
theorem dX4_sure_35 : decode cX4_sure 35 = .ok (.iadd, 1) := by decide +kernel
theorem dX4_sure_36 : decode cX4_sure 36 = .ok (.invokevirtual 161, 3) := by decide +kernel
theorem dX4_sure_39 : decode cX4_sure 39 = .ok (.ireturn, 1) := by decide +kernel
theorem dX4_toll_0 : decode cX4_toll 0 = .ok (.aload_n 0, 1) := by decide +kernel
theorem dX4_toll_1 : decode cX4_toll 1 = .ok (.iload_n 1, 1) := by decide +kernel
theorem dX4_toll_2 : decode cX4_toll 2 = .ok (.invokevirtual 98, 3) := by decide +kernel
theorem dX4_toll_5 : decode cX4_toll 5 = .ok (.astore_n 2, 1) := by decide +kernel
theorem dX4_toll_6 : decode cX4_toll 6 = .ok (.aload_n 2, 1) := by decide +kernel
theorem dX4_toll_7 : decode cX4_toll 7 = .ok (.ifnonnull 5, 3) := by decide +kernel
theorem dX4_toll_10 : decode cX4_toll 10 = .ok (.iconst (-1), 1) := by decide +kernel
theorem dX4_toll_11 : decode cX4_toll 11 = .ok (.ireturn, 1) := by decide +kernel
theorem dX4_toll_12 : decode cX4_toll 12 = .ok (.aload_n 0, 1) := by decide +kernel
theorem dX4_toll_13 : decode cX4_toll 13 = .ok (.getfield 30, 3) := by decide +kernel
theorem dX4_toll_16 : decode cX4_toll 16 = .ok (.aload_n 2, 1) := by decide +kernel
theorem dX4_toll_17 : decode cX4_toll 17 = .ok (.invokevirtual 145, 3) := by decide +kernel
theorem dX4_toll_20 : decode cX4_toll 20 = .ok (.pop, 1) := by decide +kernel
theorem dX4_toll_21 : decode cX4_toll 21 = .ok (.aload_n 0, 1) := by decide +kernel
theorem dX4_toll_22 : decode cX4_toll 22 = .ok (.getfield 30, 3) := by decide +kernel
theorem dX4_toll_25 : decode cX4_toll 25 = .ok (.invokevirtual 165, 3) := by decide +kernel
theorem dX4_toll_28 : decode cX4_toll 28 = .ok (.ireturn, 1) := by decide +kernel
theorem dX4_speed_0 : decode cX4_speed 0 = .ok (.aload_n 0, 1) := by decide +kernel
theorem dX4_speed_1 : decode cX4_speed 1 = .ok (.iload_n 1, 1) := by decide +kernel
theorem dX4_speed_2 : decode cX4_speed 2 = .ok (.invokevirtual 98, 3) := by decide +kernel
theorem dX4_speed_5 : decode cX4_speed 5 = .ok (.astore_n 3, 1) := by decide +kernel
theorem dX4_speed_6 : decode cX4_speed 6 = .ok (.aload_n 3, 1) := by decide +kernel
theorem dX4_speed_7 : decode cX4_speed 7 = .ok (.ifnull 11, 3) := by decide +kernel
theorem dX4_speed_10 : decode cX4_speed 10 = .ok (.aload_n 3, 1) := by decide +kernel
theorem dX4_speed_11 : decode cX4_speed 11 = .ok (.iload_n 2, 1) := by decide +kernel
theorem dX4_speed_12 : decode cX4_speed 12 = .ok (.invokevirtual 122, 3) := by decide +kernel
theorem dX4_speed_15 : decode cX4_speed 15 = .ok (.ifCond .ne 5, 3) := by decide +kernel
theorem dX4_speed_18 : decode cX4_speed 18 = .ok (.iconst (-1), 1) := by decide +kernel
theorem dX4_speed_19 : decode cX4_speed 19 = .ok (.ireturn, 1) := by decide +kernel
theorem dX4_speed_20 : decode cX4_speed 20 = .ok (.aload_n 0, 1) := by decide +kernel
theorem dX4_speed_21 : decode cX4_speed 21 = .ok (.getfield 30, 3) := by decide +kernel
theorem dX4_speed_24 : decode cX4_speed 24 = .ok (.aload_n 3, 1) := by decide +kernel
theorem dX4_speed_25 : decode cX4_speed 25 = .ok (.invokevirtual 145, 3) := by decide +kernel
theorem dX4_speed_28 : decode cX4_speed 28 = .ok (.pop, 1) := by decide +kernel
theorem dX4_speed_29 : decode cX4_speed 29 = .ok (.aload_n 0, 1) := by decide +kernel
theorem dX4_speed_30 : decode cX4_speed 30 = .ok (.getfield 30, 3) := by decide +kernel
theorem dX4_speed_33 : decode cX4_speed 33 = .ok (.iload_n 2, 1) := by decide +kernel
theorem dX4_speed_34 : decode cX4_speed 34 = .ok (.invokevirtual 168, 3) := by decide +kernel
theorem dX4_speed_37 : decode cX4_speed 37 = .ok (.ireturn, 1) := by decide +kernel
theorem dX4_against_0 : decode cX4_against 0 = .ok (.aload_n 0, 1) := by decide +kernel
theorem dX4_against_1 : decode cX4_against 1 = .ok (.getfield 12, 3) := by decide +kernel
theorem dX4_against_4 : decode cX4_against 4 = .ok (.iload_n 1, 1) := by decide +kernel
theorem dX4_against_5 : decode cX4_against 5 = .ok (.invokevirtual 77, 3) := by decide +kernel
theorem dX4_against_8 : decode cX4_against 8 = .ok (.ifCond .ne 5, 3) := by decide +kernel
theorem dX4_against_11 : decode cX4_against 11 = .ok (.iconst (-1), 1) := by decide +kernel
theorem dX4_against_12 : decode cX4_against 12 = .ok (.ireturn, 1) := by decide +kernel
theorem dX4_against_13 : decode cX4_against 13 = .ok (.aload_n 0, 1) := by decide +kernel
theorem dX4_against_14 : decode cX4_against 14 = .ok (.getfield 12, 3) := by decide +kernel
theorem dX4_against_17 : decode cX4_against 17 = .ok (.getfield 171, 3) := by decide +kernel
theorem dX4_against_20 : decode cX4_against 20 = .ok (.iload_n 1, 1) := by decide +kernel
theorem dX4_against_21 : decode cX4_against 21 = .ok (.iaload, 1) := by decide +kernel
theorem dX4_against_22 : decode cX4_against 22 = .ok (.iconst 1, 1) := by decide +kernel
theorem dX4_against_23 : decode cX4_against 23 = .ok (.if_icmp .eq 6, 3) := by decide +kernel
theorem dX4_against_26 : decode cX4_against 26 = .ok (.bipush (-3), 2) := by decide +kernel
theorem dX4_against_28 : decode cX4_against 28 = .ok (.ireturn, 1) := by decide +kernel
theorem dX4_against_29 : decode cX4_against 29 = .ok (.iconst 0, 1) := by decide +kernel
theorem dX4_against_30 : decode cX4_against 30 = .ok (.istore_n 2, 1) := by decide +kernel
theorem dX4_against_31 : decode cX4_against 31 = .ok (.iload_n 2, 1) := by decide +kernel
theorem dX4_against_32 : decode cX4_against 32 = .ok (.aload_n 0, 1) := by decide +kernel
theorem dX4_against_33 : decode cX4_against 33 = .ok (.getfield 40, 3) := by decide +kernel
theorem dX4_against_36 : decode cX4_against 36 = .ok (.if_icmp .ge 28, 3) := by decide +kernel
theorem dX4_against_39 : decode cX4_against 39 = .ok (.aload_n 0, 1) := by decide +kernel
theorem dX4_against_40 : decode cX4_against 40 = .ok (.getfield 51, 3) := by decide +kernel
theorem dX4_against_43 : decode cX4_against 43 = .ok (.iload_n 2, 1) := by decide +kernel
theorem dX4_against_44 : decode cX4_against 44 = .ok (.aload_n 0, 1) := by decide +kernel
theorem dX4_against_45 : decode cX4_against 45 = .ok (.getfield 30, 3) := by decide +kernel
theorem dX4_against_48 : decode cX4_against 48 = .ok (.aload_n 0, 1) := by decide +kernel
theorem dX4_against_49 : decode cX4_against 49 = .ok (.getfield 36, 3) := by decide +kernel
theorem dX4_against_52 : decode cX4_against 52 = .ok (.iload_n 2, 1) := by decide +kernel
theorem dX4_against_53 : decode cX4_against 53 = .ok (.aaload, 1) := by decide +kernel
theorem dX4_against_54 : decode cX4_against 54 = .ok (.invokevirtual 145, 3) := by decide +kernel
theorem dX4_against_57 : decode cX4_against 57 = .ok (.iastore, 1) := by decide +kernel
theorem dX4_against_58 : decode cX4_against 58 = .ok (.iinc 2 1, 3) := by decide +kernel
theorem dX4_against_61 : decode cX4_against 61 = .ok (.goto (-30), 3) := by decide +kernel
theorem dX4_against_64 : decode cX4_against 64 = .ok (.aload_n 0, 1) := by decide +kernel
theorem dX4_against_65 : decode cX4_against 65 = .ok (.iload_n 1, 1) := by decide +kernel
theorem dX4_against_66 : decode cX4_against 66 = .ok (.iconst 0, 1) := by decide +kernel
theorem dX4_against_67 : decode cX4_against 67 = .ok (.invokevirtual 174, 3) := by decide +kernel
theorem dX4_against_70 : decode cX4_against 70 = .ok (.iconst 0, 1) := by decide +kernel
theorem dX4_against_71 : decode cX4_against 71 = .ok (.istore_n 2, 1) := by decide +kernel
theorem dX4_against_72 : decode cX4_against 72 = .ok (.iconst 0, 1) := by decide +kernel
theorem dX4_against_73 : decode cX4_against 73 = .ok (.istore_n 3, 1) := by decide +kernel
theorem dX4_against_74 : decode cX4_against 74 = .ok (.iload_n 3, 1) := by decide +kernel
theorem dX4_against_75 : decode cX4_against 75 = .ok (.aload_n 0, 1) := by decide +kernel
theorem dX4_against_76 : decode cX4_against 76 = .ok (.getfield 40, 3) := by decide +kernel
theorem dX4_against_79 : decode cX4_against 79 = .ok (.if_icmp .ge 34, 3) := by decide +kernel
theorem dX4_against_82 : decode cX4_against 82 = .ok (.aload_n 0, 1) := by decide +kernel
theorem dX4_against_83 : decode cX4_against 83 = .ok (.getfield 30, 3) := by decide +kernel
theorem dX4_against_86 : decode cX4_against 86 = .ok (.aload_n 0, 1) := by decide +kernel
theorem dX4_against_87 : decode cX4_against 87 = .ok (.getfield 36, 3) := by decide +kernel
theorem dX4_against_90 : decode cX4_against 90 = .ok (.iload_n 3, 1) := by decide +kernel
theorem dX4_against_91 : decode cX4_against 91 = .ok (.aaload, 1) := by decide +kernel
theorem dX4_against_92 : decode cX4_against 92 = .ok (.invokevirtual 145, 3) := by decide +kernel
theorem dX4_against_95 : decode cX4_against 95 = .ok (.aload_n 0, 1) := by decide +kernel
theorem dX4_against_96 : decode cX4_against 96 = .ok (.getfield 51, 3) := by decide +kernel
theorem dX4_against_99 : decode cX4_against 99 = .ok (.iload_n 3, 1) := by decide +kernel
theorem dX4_against_100 : decode cX4_against 100 = .ok (.iaload, 1) := by decide +kernel
theorem dX4_against_101 : decode cX4_against 101 = .ok (.if_icmp .ge 6, 3) := by decide +kernel
theorem dX4_against_104 : decode cX4_against 104 = .ok (.iinc 2 1, 3) := by decide +kernel
theorem dX4_against_107 : decode cX4_against 107 = .ok (.iinc 3 1, 3) := by decide +kernel
theorem dX4_against_110 : decode cX4_against 110 = .ok (.goto (-36), 3) := by decide +kernel
theorem dX4_against_113 : decode cX4_against 113 = .ok (.aload_n 0, 1) := by decide +kernel
theorem dX4_against_114 : decode cX4_against 114 = .ok (.iload_n 1, 1) := by decide +kernel
theorem dX4_against_115 : decode cX4_against 115 = .ok (.iconst 1, 1) := by decide +kernel
theorem dX4_against_116 : decode cX4_against 116 = .ok (.invokevirtual 174, 3) := by decide +kernel
theorem dX4_against_119 : decode cX4_against 119 = .ok (.iload_n 2, 1) := by decide +kernel
theorem dX4_against_120 : decode cX4_against 120 = .ok (.ireturn, 1) := by decide +kernel
theorem dX4_count_0 : decode cX4_count 0 = .ok (.iload_n 1, 1) := by decide +kernel
theorem dX4_count_1 : decode cX4_count 1 = .ok (.tableswitch 66 0 4 #[35, 43, 51, 56, 61], 35) := by decide +kernel
theorem dX4_count_36 : decode cX4_count 36 = .ok (.aload_n 0, 1) := by decide +kernel
theorem dX4_count_37 : decode cX4_count 37 = .ok (.getfield 12, 3) := by decide +kernel
theorem dX4_count_40 : decode cX4_count 40 = .ok (.getfield 178, 3) := by decide +kernel
theorem dX4_count_43 : decode cX4_count 43 = .ok (.ireturn, 1) := by decide +kernel
theorem dX4_count_44 : decode cX4_count 44 = .ok (.aload_n 0, 1) := by decide +kernel
theorem dX4_count_45 : decode cX4_count 45 = .ok (.getfield 12, 3) := by decide +kernel
theorem dX4_count_48 : decode cX4_count 48 = .ok (.getfield 181, 3) := by decide +kernel
theorem dX4_count_51 : decode cX4_count 51 = .ok (.ireturn, 1) := by decide +kernel
theorem dX4_count_52 : decode cX4_count 52 = .ok (.aload_n 0, 1) := by decide +kernel
theorem dX4_count_53 : decode cX4_count 53 = .ok (.getfield 40, 3) := by decide +kernel
theorem dX4_count_56 : decode cX4_count 56 = .ok (.ireturn, 1) := by decide +kernel
theorem dX4_count_57 : decode cX4_count 57 = .ok (.aload_n 0, 1) := by decide +kernel
theorem dX4_count_58 : decode cX4_count 58 = .ok (.invokevirtual 184, 3) := by decide +kernel
theorem dX4_count_61 : decode cX4_count 61 = .ok (.ireturn, 1) := by decide +kernel
theorem dX4_count_62 : decode cX4_count 62 = .ok (.aload_n 0, 1) := by decide +kernel
theorem dX4_count_63 : decode cX4_count 63 = .ok (.getfield 48, 3) := by decide +kernel
theorem dX4_count_66 : decode cX4_count 66 = .ok (.ireturn, 1) := by decide +kernel
theorem dX4_count_67 : decode cX4_count 67 = .ok (.iconst (-1), 1) := by decide +kernel
theorem dX4_count_68 : decode cX4_count 68 = .ok (.ireturn, 1) := by decide +kernel
theorem dX4_isWithin_0 : decode cX4_isWithin 0 = .ok (.iload_n 0, 1) := by decide +kernel
theorem dX4_isWithin_1 : decode cX4_isWithin 1 = .ok (.iload_n 1, 1) := by decide +kernel
theorem dX4_isWithin_2 : decode cX4_isWithin 2 = .ok (.if_icmp .lt 12, 3) := by decide +kernel
theorem dX4_isWithin_5 : decode cX4_isWithin 5 = .ok (.iload_n 0, 1) := by decide +kernel
theorem dX4_isWithin_6 : decode cX4_isWithin 6 = .ok (.iload_n 2, 1) := by decide +kernel
theorem dX4_isWithin_7 : decode cX4_isWithin 7 = .ok (.if_icmp .gt 7, 3) := by decide +kernel
theorem dX4_isWithin_10 : decode cX4_isWithin 10 = .ok (.iconst 1, 1) := by decide +kernel
theorem dX4_isWithin_11 : decode cX4_isWithin 11 = .ok (.goto 4, 3) := by decide +kernel
theorem dX4_isWithin_14 : decode cX4_isWithin 14 = .ok (.iconst 0, 1) := by decide +kernel
theorem dX4_isWithin_15 : decode cX4_isWithin 15 = .ok (.ireturn, 1) := by decide +kernel
theorem dX4_isFeeOfKind_0 : decode cX4_isFeeOfKind 0 = .ok (.iload_n 1, 1) := by decide +kernel
theorem dX4_isFeeOfKind_1 : decode cX4_isFeeOfKind 1 = .ok (.iconst 3, 1) := by decide +kernel
theorem dX4_isFeeOfKind_2 : decode cX4_isFeeOfKind 2 = .ok (.if_icmp .ne 13, 3) := by decide +kernel
theorem dX4_isFeeOfKind_5 : decode cX4_isFeeOfKind 5 = .ok (.iload_n 0, 1) := by decide +kernel
theorem dX4_isFeeOfKind_6 : decode cX4_isFeeOfKind 6 = .ok (.iconst 1, 1) := by decide +kernel
theorem dX4_isFeeOfKind_7 : decode cX4_isFeeOfKind 7 = .ok (.bipush 99, 2) := by decide +kernel
theorem dX4_isFeeOfKind_9 : decode cX4_isFeeOfKind 9 = .ok (.invokestatic 54, 3) := by decide +kernel
theorem dX4_isFeeOfKind_12 : decode cX4_isFeeOfKind 12 = .ok (.goto 12, 3) := by decide +kernel
theorem dX4_isFeeOfKind_15 : decode cX4_isFeeOfKind 15 = .ok (.iload_n 0, 1) := by decide +kernel
theorem dX4_isFeeOfKind_16 : decode cX4_isFeeOfKind 16 = .ok (.ifCond .ne 7, 3) := by decide +kernel
theorem dX4_isFeeOfKind_19 : decode cX4_isFeeOfKind 19 = .ok (.iconst 1, 1) := by decide +kernel
theorem dX4_isFeeOfKind_20 : decode cX4_isFeeOfKind 20 = .ok (.goto 4, 3) := by decide +kernel
theorem dX4_isFeeOfKind_23 : decode cX4_isFeeOfKind 23 = .ok (.iconst 0, 1) := by decide +kernel
theorem dX4_isFeeOfKind_24 : decode cX4_isFeeOfKind 24 = .ok (.ireturn, 1) := by decide +kernel
theorem dX4_findDrive_0 : decode cX4_findDrive 0 = .ok (.iload_n 1, 1) := by decide +kernel
theorem dX4_findDrive_1 : decode cX4_findDrive 1 = .ok (.ifCond .lt 20, 3) := by decide +kernel
theorem dX4_findDrive_4 : decode cX4_findDrive 4 = .ok (.iload_n 1, 1) := by decide +kernel
theorem dX4_findDrive_5 : decode cX4_findDrive 5 = .ok (.aload_n 0, 1) := by decide +kernel
theorem dX4_findDrive_6 : decode cX4_findDrive 6 = .ok (.getfield 40, 3) := by decide +kernel
theorem dX4_findDrive_9 : decode cX4_findDrive 9 = .ok (.if_icmp .ge 12, 3) := by decide +kernel
theorem dX4_findDrive_12 : decode cX4_findDrive 12 = .ok (.aload_n 0, 1) := by decide +kernel
theorem dX4_findDrive_13 : decode cX4_findDrive 13 = .ok (.getfield 36, 3) := by decide +kernel
theorem dX4_findDrive_16 : decode cX4_findDrive 16 = .ok (.iload_n 1, 1) := by decide +kernel
theorem dX4_findDrive_17 : decode cX4_findDrive 17 = .ok (.aaload, 1) := by decide +kernel
theorem dX4_findDrive_18 : decode cX4_findDrive 18 = .ok (.goto 4, 3) := by decide +kernel
theorem dX4_findDrive_21 : decode cX4_findDrive 21 = .ok (.aconst_null, 1) := by decide +kernel
theorem dX4_findDrive_22 : decode cX4_findDrive 22 = .ok (.areturn, 1) := by decide +kernel
theorem dX4_countSights_0 : decode cX4_countSights 0 = .ok (.iconst 0, 1) := by decide +kernel
theorem dX4_countSights_1 : decode cX4_countSights 1 = .ok (.istore_n 1, 1) := by decide +kernel
theorem dX4_countSights_2 : decode cX4_countSights 2 = .ok (.iconst 0, 1) := by decide +kernel
theorem dX4_countSights_3 : decode cX4_countSights 3 = .ok (.istore_n 2, 1) := by decide +kernel
theorem dX4_countSights_4 : decode cX4_countSights 4 = .ok (.iload_n 2, 1) := by decide +kernel
theorem dX4_countSights_5 : decode cX4_countSights 5 = .ok (.aload_n 0, 1) := by decide +kernel
theorem dX4_countSights_6 : decode cX4_countSights 6 = .ok (.getfield 40, 3) := by decide +kernel
theorem dX4_countSights_9 : decode cX4_countSights 9 = .ok (.if_icmp .ge 26, 3) := by decide +kernel
theorem dX4_countSights_12 : decode cX4_countSights 12 = .ok (.aload_n 0, 1) := by decide +kernel
theorem dX4_countSights_13 : decode cX4_countSights 13 = .ok (.iload_n 2, 1) := by decide +kernel
theorem dX4_countSights_14 : decode cX4_countSights 14 = .ok (.invokevirtual 98, 3) := by decide +kernel
theorem dX4_countSights_17 : decode cX4_countSights 17 = .ok (.astore_n 3, 1) := by decide +kernel
theorem dX4_countSights_18 : decode cX4_countSights 18 = .ok (.aload_n 3, 1) := by decide +kernel
theorem dX4_countSights_19 : decode cX4_countSights 19 = .ok (.ifnull 10, 3) := by decide +kernel
theorem dX4_countSights_22 : decode cX4_countSights 22 = .ok (.iload_n 1, 1) := by decide +kernel
theorem dX4_countSights_23 : decode cX4_countSights 23 = .ok (.aload_n 3, 1) := by decide +kernel
theorem dX4_countSights_24 : decode cX4_countSights 24 = .ok (.getfield 113, 3) := by decide +kernel
theorem dX4_countSights_27 : decode cX4_countSights 27 = .ok (.iadd, 1) := by decide +kernel
theorem dX4_countSights_28 : decode cX4_countSights 28 = .ok (.istore_n 1, 1) := by decide +kernel
theorem dX4_countSights_29 : decode cX4_countSights 29 = .ok (.iinc 2 1, 3) := by decide +kernel
theorem dX4_countSights_32 : decode cX4_countSights 32 = .ok (.goto (-28), 3) := by decide +kernel
theorem dX4_countSights_35 : decode cX4_countSights 35 = .ok (.iload_n 1, 1) := by decide +kernel
theorem dX4_countSights_36 : decode cX4_countSights 36 = .ok (.ireturn, 1) := by decide +kernel
theorem dX4_changeKind_0 : decode cX4_changeKind 0 = .ok (.aload_n 0, 1) := by decide +kernel
theorem dX4_changeKind_1 : decode cX4_changeKind 1 = .ok (.invokevirtual 70, 3) := by decide +kernel
theorem dX4_changeKind_4 : decode cX4_changeKind 4 = .ok (.aload_n 0, 1) := by decide +kernel
theorem dX4_changeKind_5 : decode cX4_changeKind 5 = .ok (.getfield 12, 3) := by decide +kernel
theorem dX4_changeKind_8 : decode cX4_changeKind 8 = .ok (.iload_n 1, 1) := by decide +kernel
theorem dX4_changeKind_9 : decode cX4_changeKind 9 = .ok (.iload_n 2, 1) := by decide +kernel
theorem dX4_changeKind_10 : decode cX4_changeKind 10 = .ok (.invokevirtual 187, 3) := by decide +kernel
theorem dX4_changeKind_13 : decode cX4_changeKind 13 = .ok (.return_, 1) := by decide +kernel
theorem dX4_forgetWays_0 : decode cX4_forgetWays 0 = .ok (.aload_n 0, 1) := by decide +kernel
theorem dX4_forgetWays_1 : decode cX4_forgetWays 1 = .ok (.getfield 21, 3) := by decide +kernel
theorem dX4_forgetWays_4 : decode cX4_forgetWays 4 = .ok (.invokevirtual 190, 3) := by decide +kernel
theorem dX4_forgetWays_7 : decode cX4_forgetWays 7 = .ok (.aload_n 0, 1) := by decide +kernel
theorem dX4_forgetWays_8 : decode cX4_forgetWays 8 = .ok (.getfield 30, 3) := by decide +kernel
theorem dX4_forgetWays_11 : decode cX4_forgetWays 11 = .ok (.invokevirtual 106, 3) := by decide +kernel
theorem dX4_forgetWays_14 : decode cX4_forgetWays 14 = .ok (.return_, 1) := by decide +kernel
end
section
theorem dX5_init_0 : decode cX5_init 0 = .ok (.aload_n 0, 1) := by decide +kernel
theorem dX5_init_1 : decode cX5_init 1 = .ok (.invokespecial 1, 3) := by decide +kernel
theorem dX5_init_4 : decode cX5_init 4 = .ok (.aload_n 0, 1) := by decide +kernel
theorem dX5_init_5 : decode cX5_init 5 = .ok (.bipush 16, 2) := by decide +kernel
theorem dX5_init_7 : decode cX5_init 7 = .ok (.newarray .int, 2) := by decide +kernel
theorem dX5_init_9 : decode cX5_init 9 = .ok (.putfield 9, 3) := by decide +kernel
theorem dX5_init_12 : decode cX5_init 12 = .ok (.aload_n 0, 1) := by decide +kernel
theorem dX5_init_13 : decode cX5_init 13 = .ok (.bipush 16, 2) := by decide +kernel
theorem dX5_init_15 : decode cX5_init 15 = .ok (.newarray .int, 2) := by decide +kernel
theorem dX5_init_17 : decode cX5_init 17 = .ok (.putfield 13, 3) := by decide +kernel
theorem dX5_init_20 : decode cX5_init 20 = .ok (.aload_n 0, 1) := by decide +kernel
theorem dX5_init_21 : decode cX5_init 21 = .ok (.bipush 30, 2) := by decide +kernel
theorem dX5_init_23 : decode cX5_init 23 = .ok (.newarray .int, 2) := by decide +kernel
theorem dX5_init_25 : decode cX5_init 25 = .ok (.putfield 16, 3) := by decide +kernel
theorem dX5_init_28 : decode cX5_init 28 = .ok (.aload_n 0, 1) := by decide +kernel
theorem dX5_init_29 : decode cX5_init 29 = .ok (.bipush 30, 2) := by decide +kernel
theorem dX5_init_31 : decode cX5_init 31 = .ok (.newarray .int, 2) := by decide +kernel
theorem dX5_init_33 : decode cX5_init 33 = .ok (.putfield 19, 3) := by decide +kernel
theorem dX5_init_36 : decode cX5_init 36 = .ok (.aload_n 0, 1) := by decide +kernel
theorem dX5_init_37 : decode cX5_init 37 = .ok (.bipush 30, 2) := by decide +kernel
theorem dX5_init_39 : decode cX5_init 39 = .ok (.newarray .int, 2) := by decide +kernel
theorem dX5_init_41 : decode cX5_init 41 = .ok (.putfield 22, 3) := by decide +kernel
theorem dX5_init_44 : decode cX5_init 44 = .ok (.aload_n 0, 1) := by decide +kernel
theorem dX5_init_45 : decode cX5_init 45 = .ok (.bipush 30, 2) := by decide +kernel
theorem dX5_init_47 : decode cX5_init 47 = .ok (.newarray .int, 2) := by decide +kernel
theorem dX5_init_49 : decode cX5_init 49 = .ok (.putfield 25, 3) := by decide +kernel
theorem dX5_init_52 : decode cX5_init 52 = .ok (.aload_n 0, 1) := by decide +kernel
theorem dX5_init_53 : decode cX5_init 53 = .ok (.bipush 30, 2) := by decide +kernel
theorem dX5_init_55 : decode cX5_init 55 = .ok (.newarray .int, 2) := by decide +kernel
theorem dX5_init_57 : decode cX5_init 57 = .ok (.putfield 28, 3) := by decide +kernel
theorem dX5_init_60 : decode cX5_init 60 = .ok (.aload_n 0, 1) := by decide +kernel
theorem dX5_init_61 : decode cX5_init 61 = .ok (.sipush 900, 3) := by decide +kernel
theorem dX5_init_64 : decode cX5_init 64 = .ok (.newarray .boolean, 2) := by decide +kernel
theorem dX5_init_66 : decode cX5_init 66 = .ok (.putfield 31, 3) := by decide +kernel
theorem dX5_init_69 : decode cX5_init 69 = .ok (.aload_n 0, 1) := by decide +kernel
theorem dX5_init_70 : decode cX5_init 70 = .ok (.bipush 120, 2) := by decide +kernel
theorem dX5_init_72 : decode cX5_init 72 = .ok (.newarray .int, 2) := by decide +kernel
theorem dX5_init_74 : decode cX5_init 74 = .ok (.putfield 35, 3) := by decide +kernel
theorem dX5_init_77 : decode cX5_init 77 = .ok (.aload_n 0, 1) := by decide +kernel
theorem dX5_init_78 : decode cX5_init 78 = .ok (.bipush 120, 2) := by decide +kernel
theorem dX5_init_80 : decode cX5_init 80 = .ok (.newarray .int, 2) := by decide +kernel
theorem dX5_init_82 : decode cX5_init 82 = .ok (.putfield 38, 3) := by decide +kernel
theorem dX5_init_85 : decode cX5_init 85 = .ok (.aload_n 0, 1) := by decide +kernel
theorem dX5_init_86 : decode cX5_init 86 = .ok (.bipush 120, 2) := by decide +kernel
theorem dX5_init_88 : decode cX5_init 88 = .ok (.newarray .int, 2) := by decide +kernel
theorem dX5_init_90 : decode cX5_init 90 = .ok (.putfield 41, 3) := by decide +kernel
theorem dX5_init_93 : decode cX5_init 93 = .ok (.aload_n 0, 1) := by decide +kernel
theorem dX5_init_94 : decode cX5_init 94 = .ok (.bipush 120, 2) := by decide +kernel
theorem dX5_init_96 : decode cX5_init 96 = .ok (.newarray .int, 2) := by decide +kernel
theorem dX5_init_98 : decode cX5_init 98 = .ok (.putfield 44, 3) := by decide +kernel
theorem dX5_init_101 : decode cX5_init 101 = .ok (.aload_n 0, 1) := by decide +kernel
theorem dX5_init_102 : decode cX5_init 102 = .ok (.bipush 6, 2) := by decide +kernel
theorem dX5_init_104 : decode cX5_init 104 = .ok (.newarray .int, 2) := by decide +kernel
theorem dX5_init_106 : decode cX5_init 106 = .ok (.putfield 47, 3) := by decide +kernel
theorem dX5_init_109 : decode cX5_init 109 = .ok (.aload_n 0, 1) := by decide +kernel
theorem dX5_init_110 : decode cX5_init 110 = .ok (.bipush 20, 2) := by decide +kernel
theorem dX5_init_112 : decode cX5_init 112 = .ok (.putfield 50, 3) := by decide +kernel
theorem dX5_init_115 : decode cX5_init 115 = .ok (.aload_n 0, 1) := by decide +kernel
theorem dX5_init_116 : decode cX5_init 116 = .ok (.sipush 200, 3) := by decide +kernel
theorem dX5_init_119 : decode cX5_init 119 = .ok (.putfield 54, 3) := by decide +kernel
theorem dX5_init_122 : decode cX5_init 122 = .ok (.aload_n 0, 1) := by decide +kernel
theorem dX5_init_123 : decode cX5_init 123 = .ok (.bipush 20, 2) := by decide +kernel
theorem dX5_init_125 : decode cX5_init 125 = .ok (.newarray .int, 2) := by decide +kernel
theorem dX5_init_127 : decode cX5_init 127 = .ok (.putfield 57, 3) := by decide +kernel
theorem dX5_init_130 : decode cX5_init 130 = .ok (.aload_n 0, 1) := by decide +kernel
theorem dX5_init_131 : decode cX5_init 131 = .ok (.sipush 22500, 3) := by decide +kernel
theorem dX5_init_134 : decode cX5_init 134 = .ok (.newarray .int, 2) := by decide +kernel
theorem dX5_init_136 : decode cX5_init 136 = .ok (.putfield 60, 3) := by decide +kernel
theorem dX5_init_139 : decode cX5_init 139 = .ok (.aload_n 0, 1) := by decide +kernel
theorem dX5_init_140 : decode cX5_init 140 = .ok (.sipush 22500, 3) := by decide +kernel
theorem dX5_init_143 : decode cX5_init 143 = .ok (.newarray .int, 2) := by decide +kernel
theorem dX5_init_145 : decode cX5_init 145 = .ok (.putfield 63, 3) := by decide +kernel
theorem dX5_init_148 : decode cX5_init 148 = .ok (.aload_n 0, 1) := by decide +kernel
theorem dX5_init_149 : decode cX5_init 149 = .ok (.bipush 60, 2) := by decide +kernel
theorem dX5_init_151 : decode cX5_init 151 = .ok (.newarray .int, 2) := by decide +kernel
theorem dX5_init_153 : decode cX5_init 153 = .ok (.putfield 66, 3) := by decide +kernel
theorem dX5_init_156 : decode cX5_init 156 = .ok (.aload_n 0, 1) := by decide +kernel
theorem dX5_init_157 : decode cX5_init 157 = .ok (.bipush 60, 2) := by decide +kernel
theorem dX5_init_159 : decode cX5_init 159 = .ok (.newarray .int, 2) := by decide +kernel
theorem dX5_init_161 : decode cX5_init 161 = .ok (.putfield 69, 3) := by decide +kernel
theorem dX5_init_164 : decode cX5_init 164 = .ok (.aload_n 0, 1) := by decide +kernel
theorem dX5_init_165 : decode cX5_init 165 = .ok (.sipush 200, 3) := by decide +kernel
theorem dX5_init_168 : decode cX5_init 168 = .ok (.newarray .int, 2) := by decide +kernel
theorem dX5_init_170 : decode cX5_init 170 = .ok (.putfield 72, 3) := by decide +kernel
theorem dX5_init_173 : decode cX5_init 173 = .ok (.aload_n 0, 1) := by decide +kernel
theorem dX5_init_174 : decode cX5_init 174 = .ok (.bipush 20, 2) := by decide +kernel
theorem dX5_init_176 : decode cX5_init 176 = .ok (.newarray .int, 2) := by decide +kernel
theorem dX5_init_178 : decode cX5_init 178 = .ok (.putfield 75, 3) := by decide +kernel
theorem dX5_init_181 : decode cX5_init 181 = .ok (.aload_n 0, 1) := by decide +kernel
theorem dX5_init_182 : decode cX5_init 182 = .ok (.sipush 200, 3) := by decide +kernel
theorem dX5_init_185 : decode cX5_init 185 = .ok (.newarray .int, 2) := by decide +kernel
theorem dX5_init_187 : decode cX5_init 187 = .ok (.putfield 78, 3) := by decide +kernel
theorem dX5_init_190 : decode cX5_init 190 = .ok (.aload_n 0, 1) := by decide +kernel
theorem dX5_init_191 : decode cX5_init 191 = .ok (.bipush 20, 2) := by decide +kernel
theorem dX5_init_193 : decode cX5_init 193 = .ok (.newarray .int, 2) := by decide +kernel
theorem dX5_init_195 : decode cX5_init 195 = .ok (.putfield 81, 3) := by decide +kernel
theorem dX5_init_198 : decode cX5_init 198 = .ok (.aload_n 0, 1) := by decide +kernel
theorem dX5_init_199 : decode cX5_init 199 = .ok (.bipush 20, 2) := by decide +kernel
theorem dX5_init_201 : decode cX5_init 201 = .ok (.newarray .int, 2) := by decide +kernel
theorem dX5_init_203 : decode cX5_init 203 = .ok (.putfield 84, 3) := by decide +kernel
theorem dX5_init_206 : decode cX5_init 206 = .ok (.return_, 1) := by decide +kernel
theorem dX5_within_0 : decode cX5_within 0 = .ok (.iload_n 0, 1) := by decide +kernel
theorem dX5_within_1 : decode cX5_within 1 = .ok (.iload_n 1, 1) := by decide +kernel
theorem dX5_within_2 : decode cX5_within 2 = .ok (.if_icmp .lt 12, 3) := by decide +kernel
theorem dX5_within_5 : decode cX5_within 5 = .ok (.iload_n 0, 1) := by decide +kernel
theorem dX5_within_6 : decode cX5_within 6 = .ok (.iload_n 2, 1) := by decide +kernel
theorem dX5_within_7 : decode cX5_within 7 = .ok (.if_icmp .gt 7, 3) := by decide +kernel
theorem dX5_within_10 : decode cX5_within 10 = .ok (.iconst 1, 1) := by decide +kernel
theorem dX5_within_11 : decode cX5_within 11 = .ok (.goto 4, 3) := by decide +kernel
theorem dX5_within_14 : decode cX5_within 14 = .ok (.iconst 0, 1) := by decide +kernel
theorem dX5_within_15 : decode cX5_within 15 = .ok (.ireturn, 1) := by decide +kernel
theorem dX5_knot_0 : decode cX5_knot 0 = .ok (.iload_n 1, 1) := by decide +kernel
theorem dX5_knot_1 : decode cX5_knot 1 = .ok (.iconst 0, 1) := by decide +kernel
theorem dX5_knot_2 : decode cX5_knot 2 = .ok (.bipush 99, 2) := by decide +kernel
theorem dX5_knot_4 : decode cX5_knot 4 = .ok (.invokestatic 87, 3) := by decide +kernel
theorem dX5_knot_7 : decode cX5_knot 7 = .ok (.ifCond .eq 13, 3) := by decide +kernel
theorem dX5_knot_10 : decode cX5_knot 10 = .ok (.iload_n 2, 1) := by decide +kernel
theorem dX5_knot_11 : decode cX5_knot 11 = .ok (.iconst 0, 1) := by decide +kernel
theorem dX5_knot_12 : decode cX5_knot 12 = .ok (.bipush 99, 2) := by decide +kernel
theorem dX5_knot_14 : decode cX5_knot 14 = .ok (.invokestatic 87, 3) := by decide +kernel
theorem dX5_knot_17 : decode cX5_knot 17 = .ok (.ifCond .ne 5, 3) := by decide +kernel
theorem dX5_knot_20 : decode cX5_knot 20 = .ok (.iconst (-1), 1) := by decide +kernel
theorem dX5_knot_21 : decode cX5_knot 21 = .ok (.ireturn, 1) := by decide +kernel
theorem dX5_knot_22 : decode cX5_knot 22 = .ok (.aload_n 0, 1) := by decide +kernel
theorem dX5_knot_23 : decode cX5_knot 23 = .ok (.getfield 91, 3) := by decide +kernel
theorem dX5_knot_26 : decode cX5_knot 26 = .ok (.bipush 16, 2) := by decide +kernel
theorem dX5_knot_28 : decode cX5_knot 28 = .ok (.if_icmp .ne 6, 3) := by decide +kernel
theorem dX5_knot_31 : decode cX5_knot 31 = .ok (.bipush (-2), 2) := by decide +kernel
theorem dX5_knot_33 : decode cX5_knot 33 = .ok (.ireturn, 1) := by decide +kernel
theorem dX5_knot_34 : decode cX5_knot 34 = .ok (.aload_n 0, 1) := by decide +kernel
theorem dX5_knot_35 : decode cX5_knot 35 = .ok (.getfield 9, 3) := by decide +kernel
theorem dX5_knot_38 : decode cX5_knot 38 = .ok (.aload_n 0, 1) := by decide +kernel
theorem dX5_knot_39 : decode cX5_knot 39 = .ok (.getfield 91, 3) := by decide +kernel
theorem dX5_knot_42 : decode cX5_knot 42 = .ok (.iload_n 1, 1) := by decide +kernel
theorem dX5_knot_43 : decode cX5_knot 43 = .ok (.iastore, 1) := by decide +kernel
theorem dX5_knot_44 : decode cX5_knot 44 = .ok (.aload_n 0, 1) := by decide +kernel
theorem dX5_knot_45 : decode cX5_knot 45 = .ok (.getfield 13, 3) := by decide +kernel
theorem dX5_knot_48 : decode cX5_knot 48 = .ok (.aload_n 0, 1) := by decide +kernel
theorem dX5_knot_49 : decode cX5_knot 49 = .ok (.getfield 91, 3) := by decide +kernel
theorem dX5_knot_52 : decode cX5_knot 52 = .ok (.iload_n 2, 1) := by decide +kernel
theorem dX5_knot_53 : decode cX5_knot 53 = .ok (.iastore, 1) := by decide +kernel
theorem dX5_knot_54 : decode cX5_knot 54 = .ok (.aload_n 0, 1) := by decide +kernel
theorem dX5_knot_55 : decode cX5_knot 55 = .ok (.dup, 1) := by decide +kernel
theorem dX5_knot_56 : decode cX5_knot 56 = .ok (.getfield 91, 3) := by decide +kernel
theorem dX5_knot_59 : decode cX5_knot 59 = .ok (.iconst 1, 1) := by decide +kernel
theorem dX5_knot_60 : decode cX5_knot 60 = .ok (.iadd, 1) := by decide +kernel
theorem dX5_knot_61 : decode cX5_knot 61 = .ok (.putfield 91, 3) := by decide +kernel
theorem dX5_knot_64 : decode cX5_knot 64 = .ok (.aload_n 0, 1) := by decide +kernel
theorem dX5_knot_65 : decode cX5_knot 65 = .ok (.getfield 91, 3) := by decide +kernel
theorem dX5_knot_68 : decode cX5_knot 68 = .ok (.iconst 1, 1) := by decide +kernel
theorem dX5_knot_69 : decode cX5_knot 69 = .ok (.isub, 1) := by decide +kernel
theorem dX5_knot_70 : decode cX5_knot 70 = .ok (.ireturn, 1) := by decide +kernel
theorem dX5_isKnot_0 : decode cX5_isKnot 0 = .ok (.iload_n 1, 1) := by decide +kernel
theorem dX5_isKnot_1 : decode cX5_isKnot 1 = .ok (.ifCond .lt 15, 3) := by decide +kernel
theorem dX5_isKnot_4 : decode cX5_isKnot 4 = .ok (.iload_n 1, 1) := by decide +kernel
theorem dX5_isKnot_5 : decode cX5_isKnot 5 = .ok (.aload_n 0, 1) := by decide +kernel
theorem dX5_isKnot_6 : decode cX5_isKnot 6 = .ok (.getfield 91, 3) := by decide +kernel
theorem dX5_isKnot_9 : decode cX5_isKnot 9 = .ok (.if_icmp .ge 7, 3) := by decide +kernel
theorem dX5_isKnot_12 : decode cX5_isKnot 12 = .ok (.iconst 1, 1) := by decide +kernel
theorem dX5_isKnot_13 : decode cX5_isKnot 13 = .ok (.goto 4, 3) := by decide +kernel
theorem dX5_isKnot_16 : decode cX5_isKnot 16 = .ok (.iconst 0, 1) := by decide +kernel
theorem dX5_isKnot_17 : decode cX5_isKnot 17 = .ok (.ireturn, 1) := by decide +kernel
theorem dX5_isRoad_0 : decode cX5_isRoad 0 = .ok (.iload_n 1, 1) := by decide +kernel
theorem dX5_isRoad_1 : decode cX5_isRoad 1 = .ok (.ifCond .lt 15, 3) := by decide +kernel
theorem dX5_isRoad_4 : decode cX5_isRoad 4 = .ok (.iload_n 1, 1) := by decide +kernel
theorem dX5_isRoad_5 : decode cX5_isRoad 5 = .ok (.aload_n 0, 1) := by decide +kernel
theorem dX5_isRoad_6 : decode cX5_isRoad 6 = .ok (.getfield 94, 3) := by decide +kernel
theorem dX5_isRoad_9 : decode cX5_isRoad 9 = .ok (.if_icmp .ge 7, 3) := by decide +kernel
theorem dX5_isRoad_12 : decode cX5_isRoad 12 = .ok (.iconst 1, 1) := by decide +kernel
theorem dX5_isRoad_13 : decode cX5_isRoad 13 = .ok (.goto 4, 3) := by decide +kernel
theorem dX5_isRoad_16 : decode cX5_isRoad 16 = .ok (.iconst 0, 1) := by decide +kernel
theorem dX5_isRoad_17 : decode cX5_isRoad 17 = .ok (.ireturn, 1) := by decide +kernel
theorem dX5_isPoint_0 : decode cX5_isPoint 0 = .ok (.iload_n 1, 1) := by decide +kernel
theorem dX5_isPoint_1 : decode cX5_isPoint 1 = .ok (.ifCond .lt 17, 3) := by decide +kernel
theorem dX5_isPoint_4 : decode cX5_isPoint 4 = .ok (.iload_n 1, 1) := by decide +kernel
theorem dX5_isPoint_5 : decode cX5_isPoint 5 = .ok (.iconst 5, 1) := by decide +kernel
theorem dX5_isPoint_6 : decode cX5_isPoint 6 = .ok (.aload_n 0, 1) := by decide +kernel
theorem dX5_isPoint_7 : decode cX5_isPoint 7 = .ok (.getfield 94, 3) := by decide +kernel
theorem dX5_isPoint_10 : decode cX5_isPoint 10 = .ok (.imul, 1) := by decide +kernel
theorem dX5_isPoint_11 : decode cX5_isPoint 11 = .ok (.if_icmp .ge 7, 3) := by decide +kernel
theorem dX5_isPoint_14 : decode cX5_isPoint 14 = .ok (.iconst 1, 1) := by decide +kernel
theorem dX5_isPoint_15 : decode cX5_isPoint 15 = .ok (.goto 4, 3) := by decide +kernel
theorem dX5_isPoint_18 : decode cX5_isPoint 18 = .ok (.iconst 0, 1) := by decide +kernel
theorem dX5_isPoint_19 : decode cX5_isPoint 19 = .ok (.ireturn, 1) := by decide +kernel
theorem dX5_road_0 : decode cX5_road 0 = .ok (.iload_n 1, 1) := by decide +kernel
theorem dX5_road_1 : decode cX5_road 1 = .ok (.ifCond .lt 80, 3) := by decide +kernel
theorem dX5_road_4 : decode cX5_road 4 = .ok (.aload_n 0, 1) := by decide +kernel
theorem dX5_road_5 : decode cX5_road 5 = .ok (.iload_n 1, 1) := by decide +kernel
theorem dX5_road_6 : decode cX5_road 6 = .ok (.bipush 100, 2) := by decide +kernel
theorem dX5_road_8 : decode cX5_road 8 = .ok (.idiv, 1) := by decide +kernel
theorem dX5_road_9 : decode cX5_road 9 = .ok (.invokevirtual 97, 3) := by decide +kernel
theorem dX5_road_12 : decode cX5_road 12 = .ok (.ifCond .eq 69, 3) := by decide +kernel
theorem dX5_road_15 : decode cX5_road 15 = .ok (.aload_n 0, 1) := by decide +kernel
theorem dX5_road_16 : decode cX5_road 16 = .ok (.iload_n 1, 1) := by decide +kernel
theorem dX5_road_17 : decode cX5_road 17 = .ok (.bipush 100, 2) := by decide +kernel
theorem dX5_road_19 : decode cX5_road 19 = .ok (.irem, 1) := by decide +kernel
theorem dX5_road_20 : decode cX5_road 20 = .ok (.invokevirtual 97, 3) := by decide +kernel
theorem dX5_road_23 : decode cX5_road 23 = .ok (.ifCond .eq 58, 3) := by decide +kernel
theorem dX5_road_26 : decode cX5_road 26 = .ok (.iload_n 1, 1) := by decide +kernel
theorem dX5_road_27 : decode cX5_road 27 = .ok (.bipush 100, 2) := by decide +kernel
theorem dX5_road_29 : decode cX5_road 29 = .ok (.idiv, 1) := by decide +kernel
theorem dX5_road_30 : decode cX5_road 30 = .ok (.iload_n 1, 1) := by decide +kernel
theorem dX5_road_31 : decode cX5_road 31 = .ok (.bipush 100, 2) := by decide +kernel
theorem dX5_road_33 : decode cX5_road 33 = .ok (.irem, 1) := by decide +kernel
theorem dX5_road_34 : decode cX5_road 34 = .ok (.if_icmp .eq 47, 3) := by decide +kernel
theorem dX5_road_37 : decode cX5_road 37 = .ok (.iload_n 2, 1) := by decide +kernel
theorem dX5_road_38 : decode cX5_road 38 = .ok (.iconst 1, 1) := by decide +kernel
theorem dX5_road_39 : decode cX5_road 39 = .ok (.sipush 200, 3) := by decide +kernel
theorem dX5_road_42 : decode cX5_road 42 = .ok (.invokestatic 87, 3) := by decide +kernel
theorem dX5_road_45 : decode cX5_road 45 = .ok (.ifCond .eq 36, 3) := by decide +kernel
theorem dX5_road_48 : decode cX5_road 48 = .ok (.iload_n 3, 1) := by decide +kernel
theorem dX5_road_49 : decode cX5_road 49 = .ok (.iconst 0, 1) := by decide +kernel
theorem dX5_road_50 : decode cX5_road 50 = .ok (.iconst 3, 1) := by decide +kernel
theorem dX5_road_51 : decode cX5_road 51 = .ok (.invokestatic 87, 3) := by decide +kernel
theorem dX5_road_54 : decode cX5_road 54 = .ok (.ifCond .eq 27, 3) := by decide +kernel
theorem dX5_road_57 : decode cX5_road 57 = .ok (.iload_n 3, 1) := by decide +kernel
theorem dX5_road_58 : decode cX5_road 58 = .ok (.iconst 3, 1) := by decide +kernel
theorem dX5_road_59 : decode cX5_road 59 = .ok (.if_icmp .ne 17, 3) := by decide +kernel
theorem dX5_road_62 : decode cX5_road 62 = .ok (.iload 4, 2) := by decide +kernel
theorem dX5_road_64 : decode cX5_road 64 = .ok (.iconst 1, 1) := by decide +kernel
theorem dX5_road_65 : decode cX5_road 65 = .ok (.bipush 99, 2) := by decide +kernel
theorem dX5_road_67 : decode cX5_road 67 = .ok (.invokestatic 87, 3) := by decide +kernel
theorem dX5_road_70 : decode cX5_road 70 = .ok (.ifCond .eq 11, 3) := by decide +kernel
theorem dX5_road_73 : decode cX5_road 73 = .ok (.goto 10, 3) := by decide +kernel
theorem dX5_road_76 : decode cX5_road 76 = .ok (.iload 4, 2) := by decide +kernel
theorem dX5_road_78 : decode cX5_road 78 = .ok (.ifCond .eq 5, 3) := by decide +kernel
theorem dX5_road_81 : decode cX5_road 81 = .ok (.iconst (-1), 1) := by decide +kernel
theorem dX5_road_82 : decode cX5_road 82 = .ok (.ireturn, 1) := by decide +kernel
theorem dX5_road_83 : decode cX5_road 83 = .ok (.aload_n 0, 1) := by decide +kernel
theorem dX5_road_84 : decode cX5_road 84 = .ok (.getfield 94, 3) := by decide +kernel
theorem dX5_road_87 : decode cX5_road 87 = .ok (.bipush 30, 2) := by decide +kernel
theorem dX5_road_89 : decode cX5_road 89 = .ok (.if_icmp .ne 6, 3) := by decide +kernel
theorem dX5_road_92 : decode cX5_road 92 = .ok (.bipush (-2), 2) := by decide +kernel
theorem dX5_road_94 : decode cX5_road 94 = .ok (.ireturn, 1) := by decide +kernel
theorem dX5_road_95 : decode cX5_road 95 = .ok (.aload_n 0, 1) := by decide +kernel
theorem dX5_road_96 : decode cX5_road 96 = .ok (.getfield 16, 3) := by decide +kernel
theorem dX5_road_99 : decode cX5_road 99 = .ok (.aload_n 0, 1) := by decide +kernel
theorem dX5_road_100 : decode cX5_road 100 = .ok (.getfield 94, 3) := by decide +kernel
theorem dX5_road_103 : decode cX5_road 103 = .ok (.iload_n 1, 1) := by decide +kernel
theorem dX5_road_104 : decode cX5_road 104 = .ok (.bipush 100, 2) := by decide +kernel
theorem dX5_road_106 : decode cX5_road 106 = .ok (.idiv, 1) := by decide +kernel
theorem dX5_road_107 : decode cX5_road 107 = .ok (.iastore, 1) := by decide +kernel
theorem dX5_road_108 : decode cX5_road 108 = .ok (.aload_n 0, 1) := by decide +kernel
theorem dX5_road_109 : decode cX5_road 109 = .ok (.getfield 19, 3) := by decide +kernel
theorem dX5_road_112 : decode cX5_road 112 = .ok (.aload_n 0, 1) := by decide +kernel
theorem dX5_road_113 : decode cX5_road 113 = .ok (.getfield 94, 3) := by decide +kernel
theorem dX5_road_116 : decode cX5_road 116 = .ok (.iload_n 1, 1) := by decide +kernel
theorem dX5_road_117 : decode cX5_road 117 = .ok (.bipush 100, 2) := by decide +kernel
theorem dX5_road_119 : decode cX5_road 119 = .ok (.irem, 1) := by decide +kernel
theorem dX5_road_120 : decode cX5_road 120 = .ok (.iastore, 1) := by decide +kernel
theorem dX5_road_121 : decode cX5_road 121 = .ok (.aload_n 0, 1) := by decide +kernel
theorem dX5_road_122 : decode cX5_road 122 = .ok (.getfield 22, 3) := by decide +kernel
theorem dX5_road_125 : decode cX5_road 125 = .ok (.aload_n 0, 1) := by decide +kernel
theorem dX5_road_126 : decode cX5_road 126 = .ok (.getfield 94, 3) := by decide +kernel
theorem dX5_road_129 : decode cX5_road 129 = .ok (.iload_n 2, 1) := by decide +kernel
theorem dX5_road_130 : decode cX5_road 130 = .ok (.iastore, 1) := by decide +kernel
theorem dX5_road_131 : decode cX5_road 131 = .ok (.aload_n 0, 1) := by decide +kernel
theorem dX5_road_132 : decode cX5_road 132 = .ok (.getfield 25, 3) := by decide +kernel
theorem dX5_road_135 : decode cX5_road 135 = .ok (.aload_n 0, 1) := by decide +kernel
theorem dX5_road_136 : decode cX5_road 136 = .ok (.getfield 94, 3) := by decide +kernel
theorem dX5_road_139 : decode cX5_road 139 = .ok (.iload_n 3, 1) := by decide +kernel
theorem dX5_road_140 : decode cX5_road 140 = .ok (.iastore, 1) := by decide +kernel
theorem dX5_road_141 : decode cX5_road 141 = .ok (.aload_n 0, 1) := by decide +kernel
theorem dX5_road_142 : decode cX5_road 142 = .ok (.getfield 28, 3) := by decide +kernel
theorem dX5_road_145 : decode cX5_road 145 = .ok (.aload_n 0, 1) := by decide +kernel
theorem dX5_road_146 : decode cX5_road 146 = .ok (.getfield 94, 3) := by decide +kernel
theorem dX5_road_149 : decode cX5_road 149 = .ok (.iload 4, 2) := by decide +kernel
theorem dX5_road_151 : decode cX5_road 151 = .ok (.iastore, 1) := by decide +kernel
theorem dX5_road_152 : decode cX5_road 152 = .ok (.aload_n 0, 1) := by decide +kernel
theorem dX5_road_153 : decode cX5_road 153 = .ok (.dup, 1) := by decide +kernel
theorem dX5_road_154 : decode cX5_road 154 = .ok (.getfield 94, 3) := by decide +kernel
theorem dX5_road_157 : decode cX5_road 157 = .ok (.iconst 1, 1) := by decide +kernel
theorem dX5_road_158 : decode cX5_road 158 = .ok (.iadd, 1) := by decide +kernel
theorem dX5_road_159 : decode cX5_road 159 = .ok (.putfield 94, 3) := by decide +kernel
theorem dX5_road_162 : decode cX5_road 162 = .ok (.aload_n 0, 1) := by decide +kernel
theorem dX5_road_163 : decode cX5_road 163 = .ok (.iconst 0, 1) := by decide +kernel
theorem dX5_road_164 : decode cX5_road 164 = .ok (.putfield 101, 3) := by decide +kernel
theorem dX5_road_167 : decode cX5_road 167 = .ok (.aload_n 0, 1) := by decide +kernel
theorem dX5_road_168 : decode cX5_road 168 = .ok (.getfield 94, 3) := by decide +kernel
theorem dX5_road_171 : decode cX5_road 171 = .ok (.iconst 1, 1) := by decide +kernel
theorem dX5_road_172 : decode cX5_road 172 = .ok (.isub, 1) := by decide +kernel
theorem dX5_road_173 : decode cX5_road 173 = .ok (.ireturn, 1) := by decide +kernel
theorem dX5_bar_0 : decode cX5_bar 0 = .ok (.aload_n 0, 1) := by decide +kernel
theorem dX5_bar_1 : decode cX5_bar 1 = .ok (.iload_n 1, 1) := by decide +kernel
theorem dX5_bar_2 : decode cX5_bar 2 = .ok (.invokevirtual 105, 3) := by decide +kernel
theorem dX5_bar_5 : decode cX5_bar 5 = .ok (.ifCond .eq 20, 3) := by decide +kernel
theorem dX5_bar_8 : decode cX5_bar 8 = .ok (.aload_n 0, 1) := by decide +kernel
theorem dX5_bar_9 : decode cX5_bar 9 = .ok (.iload_n 2, 1) := by decide +kernel
theorem dX5_bar_10 : decode cX5_bar 10 = .ok (.invokevirtual 105, 3) := by decide +kernel
theorem dX5_bar_13 : decode cX5_bar 13 = .ok (.ifCond .eq 12, 3) := by decide +kernel
theorem dX5_bar_16 : decode cX5_bar 16 = .ok (.iload_n 3, 1) := by decide +kernel
theorem dX5_bar_17 : decode cX5_bar 17 = .ok (.iconst 0, 1) := by decide +kernel
theorem dX5_bar_18 : decode cX5_bar 18 = .ok (.iconst 1, 1) := by decide +kernel
theorem dX5_bar_19 : decode cX5_bar 19 = .ok (.invokestatic 87, 3) := by decide +kernel
theorem dX5_bar_22 : decode cX5_bar 22 = .ok (.ifCond .ne 5, 3) := by decide +kernel
theorem dX5_bar_25 : decode cX5_bar 25 = .ok (.iconst (-1), 1) := by decide +kernel
theorem dX5_bar_26 : decode cX5_bar 26 = .ok (.ireturn, 1) := by decide +kernel
theorem dX5_bar_27 : decode cX5_bar 27 = .ok (.aload_n 0, 1) := by decide +kernel
theorem dX5_bar_28 : decode cX5_bar 28 = .ok (.getfield 16, 3) := by decide +kernel
theorem dX5_bar_31 : decode cX5_bar 31 = .ok (.iload_n 1, 1) := by decide +kernel
theorem dX5_bar_32 : decode cX5_bar 32 = .ok (.iaload, 1) := by decide +kernel
theorem dX5_bar_33 : decode cX5_bar 33 = .ok (.aload_n 0, 1) := by decide +kernel
theorem dX5_bar_34 : decode cX5_bar 34 = .ok (.getfield 16, 3) := by decide +kernel
theorem dX5_bar_37 : decode cX5_bar 37 = .ok (.iload_n 2, 1) := by decide +kernel
theorem dX5_bar_38 : decode cX5_bar 38 = .ok (.iaload, 1) := by decide +kernel
theorem dX5_bar_39 : decode cX5_bar 39 = .ok (.if_icmp .eq 50, 3) := by decide +kernel
theorem dX5_bar_42 : decode cX5_bar 42 = .ok (.aload_n 0, 1) := by decide +kernel
theorem dX5_bar_43 : decode cX5_bar 43 = .ok (.getfield 16, 3) := by decide +kernel
theorem dX5_bar_46 : decode cX5_bar 46 = .ok (.iload_n 1, 1) := by decide +kernel
theorem dX5_bar_47 : decode cX5_bar 47 = .ok (.iaload, 1) := by decide +kernel
theorem dX5_bar_48 : decode cX5_bar 48 = .ok (.aload_n 0, 1) := by decide +kernel
theorem dX5_bar_49 : decode cX5_bar 49 = .ok (.getfield 19, 3) := by decide +kernel
theorem dX5_bar_52 : decode cX5_bar 52 = .ok (.iload_n 2, 1) := by decide +kernel
theorem dX5_bar_53 : decode cX5_bar 53 = .ok (.iaload, 1) := by decide +kernel
theorem dX5_bar_54 : decode cX5_bar 54 = .ok (.if_icmp .eq 35, 3) := by decide +kernel
theorem dX5_bar_57 : decode cX5_bar 57 = .ok (.aload_n 0, 1) := by decide +kernel
theorem dX5_bar_58 : decode cX5_bar 58 = .ok (.getfield 19, 3) := by decide +kernel
theorem dX5_bar_61 : decode cX5_bar 61 = .ok (.iload_n 1, 1) := by decide +kernel
theorem dX5_bar_62 : decode cX5_bar 62 = .ok (.iaload, 1) := by decide +kernel
theorem dX5_bar_63 : decode cX5_bar 63 = .ok (.aload_n 0, 1) := by decide +kernel
theorem dX5_bar_64 : decode cX5_bar 64 = .ok (.getfield 16, 3) := by decide +kernel
theorem dX5_bar_67 : decode cX5_bar 67 = .ok (.iload_n 2, 1) := by decide +kernel
theorem dX5_bar_68 : decode cX5_bar 68 = .ok (.iaload, 1) := by decide +kernel
theorem dX5_bar_69 : decode cX5_bar 69 = .ok (.if_icmp .eq 20, 3) := by decide +kernel
theorem dX5_bar_72 : decode cX5_bar 72 = .ok (.aload_n 0, 1) := by decide +kernel
theorem dX5_bar_73 : decode cX5_bar 73 = .ok (.getfield 19, 3) := by decide +kernel
theorem dX5_bar_76 : decode cX5_bar 76 = .ok (.iload_n 1, 1) := by decide +kernel
theorem dX5_bar_77 : decode cX5_bar 77 = .ok (.iaload, 1) := by decide +kernel
theorem dX5_bar_78 : decode cX5_bar 78 = .ok (.aload_n 0, 1) := by decide +kernel
theorem dX5_bar_79 : decode cX5_bar 79 = .ok (.getfield 19, 3) := by decide +kernel
theorem dX5_bar_82 : decode cX5_bar 82 = .ok (.iload_n 2, 1) := by decide +kernel
theorem dX5_bar_83 : decode cX5_bar 83 = .ok (.iaload, 1) := by decide +kernel
theorem dX5_bar_84 : decode cX5_bar 84 = .ok (.if_icmp .eq 5, 3) := by decide +kernel
theorem dX5_bar_87 : decode cX5_bar 87 = .ok (.iconst (-1), 1) := by decide +kernel
theorem dX5_bar_88 : decode cX5_bar 88 = .ok (.ireturn, 1) := by decide +kernel
theorem dX5_bar_89 : decode cX5_bar 89 = .ok (.aload_n 0, 1) := by decide +kernel
theorem dX5_bar_90 : decode cX5_bar 90 = .ok (.getfield 31, 3) := by decide +kernel
theorem dX5_bar_93 : decode cX5_bar 93 = .ok (.bipush 30, 2) := by decide +kernel
theorem dX5_bar_95 : decode cX5_bar 95 = .ok (.iload_n 1, 1) := by decide +kernel
theorem dX5_bar_96 : decode cX5_bar 96 = .ok (.imul, 1) := by decide +kernel
theorem dX5_bar_97 : decode cX5_bar 97 = .ok (.iload_n 2, 1) := by decide +kernel
theorem dX5_bar_98 : decode cX5_bar 98 = .ok (.iadd, 1) := by decide +kernel
theorem dX5_bar_99 : decode cX5_bar 99 = .ok (.baload, 1) := by decide +kernel
theorem dX5_bar_100 : decode cX5_bar 100 = .ok (.ifCond .eq 7, 3) := by decide +kernel
theorem dX5_bar_103 : decode cX5_bar 103 = .ok (.iconst 1, 1) := by decide +kernel
theorem dX5_bar_104 : decode cX5_bar 104 = .ok (.goto 4, 3) := by decide +kernel
theorem dX5_bar_107 : decode cX5_bar 107 = .ok (.iconst 0, 1) := by decide +kernel
theorem dX5_bar_108 : decode cX5_bar 108 = .ok (.istore 4, 2) := by decide +kernel
theorem dX5_bar_110 : decode cX5_bar 110 = .ok (.aload_n 0, 1) := by decide +kernel
theorem dX5_bar_111 : decode cX5_bar 111 = .ok (.getfield 31, 3) := by decide +kernel
theorem dX5_bar_114 : decode cX5_bar 114 = .ok (.bipush 30, 2) := by decide +kernel
theorem dX5_bar_116 : decode cX5_bar 116 = .ok (.iload_n 1, 1) := by decide +kernel
theorem dX5_bar_117 : decode cX5_bar 117 = .ok (.imul, 1) := by decide +kernel
theorem dX5_bar_118 : decode cX5_bar 118 = .ok (.iload_n 2, 1) := by decide +kernel
theorem dX5_bar_119 : decode cX5_bar 119 = .ok (.iadd, 1) := by decide +kernel
theorem dX5_bar_120 : decode cX5_bar 120 = .ok (.iload_n 3, 1) := by decide +kernel
theorem dX5_bar_121 : decode cX5_bar 121 = .ok (.iconst 1, 1) := by decide +kernel
theorem dX5_bar_122 : decode cX5_bar 122 = .ok (.if_icmp .ne 7, 3) := by decide +kernel
theorem dX5_bar_125 : decode cX5_bar 125 = .ok (.iconst 1, 1) := by decide +kernel
theorem dX5_bar_126 : decode cX5_bar 126 = .ok (.goto 4, 3) := by decide +kernel
theorem dX5_bar_129 : decode cX5_bar 129 = .ok (.iconst 0, 1) := by decide +kernel
theorem dX5_bar_130 : decode cX5_bar 130 = .ok (.bastore, 1) := by decide +kernel
theorem dX5_bar_131 : decode cX5_bar 131 = .ok (.aload_n 0, 1) := by decide +kernel
theorem dX5_bar_132 : decode cX5_bar 132 = .ok (.iconst 0, 1) := by decide +kernel
theorem dX5_bar_133 : decode cX5_bar 133 = .ok (.putfield 101, 3) := by decide +kernel
theorem dX5_bar_136 : decode cX5_bar 136 = .ok (.iload 4, 2) := by decide +kernel
theorem dX5_bar_138 : decode cX5_bar 138 = .ok (.ireturn, 1) := by decide +kernel
theorem dX5_knotOf_0 : decode cX5_knotOf 0 = .ok (.iload_n 1, 1) := by decide +kernel
theorem dX5_knotOf_1 : decode cX5_knotOf 1 = .ok (.iconst 2, 1) := by decide +kernel
theorem dX5_knotOf_2 : decode cX5_knotOf 2 = .ok (.irem, 1) := by decide +kernel
theorem dX5_knotOf_3 : decode cX5_knotOf 3 = .ok (.ifCond .ne 14, 3) := by decide +kernel
theorem dX5_knotOf_6 : decode cX5_knotOf 6 = .ok (.aload_n 0, 1) := by decide +kernel
theorem dX5_knotOf_7 : decode cX5_knotOf 7 = .ok (.getfield 16, 3) := by decide +kernel
theorem dX5_knotOf_10 : decode cX5_knotOf 10 = .ok (.iload_n 1, 1) := by decide +kernel
theorem dX5_knotOf_11 : decode cX5_knotOf 11 = .ok (.iconst 2, 1) := by decide +kernel
theorem dX5_knotOf_12 : decode cX5_knotOf 12 = .ok (.idiv, 1) := by decide +kernel
theorem dX5_knotOf_13 : decode cX5_knotOf 13 = .ok (.iaload, 1) := by decide +kernel
theorem dX5_knotOf_14 : decode cX5_knotOf 14 = .ok (.goto 11, 3) := by decide +kernel
theorem dX5_knotOf_17 : decode cX5_knotOf 17 = .ok (.aload_n 0, 1) := by decide +kernel
theorem dX5_knotOf_18 : decode cX5_knotOf 18 = .ok (.getfield 19, 3) := by decide +kernel
theorem dX5_knotOf_21 : decode cX5_knotOf 21 = .ok (.iload_n 1, 1) := by decide +kernel
theorem dX5_knotOf_22 : decode cX5_knotOf 22 = .ok (.iconst 2, 1) := by decide +kernel
theorem dX5_knotOf_23 : decode cX5_knotOf 23 = .ok (.idiv, 1) := by decide +kernel
theorem dX5_knotOf_24 : decode cX5_knotOf 24 = .ok (.iaload, 1) := by decide +kernel
theorem dX5_knotOf_25 : decode cX5_knotOf 25 = .ok (.ireturn, 1) := by decide +kernel
theorem dX5_come_0 : decode cX5_come 0 = .ok (.iload_n 2, 1) := by decide +kernel
theorem dX5_come_1 : decode cX5_come 1 = .ok (.aload_n 0, 1) := by decide +kernel
theorem dX5_come_2 : decode cX5_come 2 = .ok (.getfield 66, 3) := by decide +kernel
theorem dX5_come_5 : decode cX5_come 5 = .ok (.iload_n 1, 1) := by decide +kernel
theorem dX5_come_6 : decode cX5_come 6 = .ok (.iaload, 1) := by decide +kernel
theorem dX5_come_7 : decode cX5_come 7 = .ok (.if_icmp .gt 23, 3) := by decide +kernel
theorem dX5_come_10 : decode cX5_come 10 = .ok (.iload_n 2, 1) := by decide +kernel
theorem dX5_come_11 : decode cX5_come 11 = .ok (.aload_n 0, 1) := by decide +kernel
theorem dX5_come_12 : decode cX5_come 12 = .ok (.getfield 66, 3) := by decide +kernel
theorem dX5_come_15 : decode cX5_come 15 = .ok (.iload_n 1, 1) := by decide +kernel
theorem dX5_come_16 : decode cX5_come 16 = .ok (.iaload, 1) := by decide +kernel
theorem dX5_come_17 : decode cX5_come 17 = .ok (.if_icmp .ne 15, 3) := by decide +kernel
theorem dX5_come_20 : decode cX5_come 20 = .ok (.iload_n 3, 1) := by decide +kernel
theorem dX5_come_21 : decode cX5_come 21 = .ok (.aload_n 0, 1) := by decide +kernel
theorem dX5_come_22 : decode cX5_come 22 = .ok (.getfield 69, 3) := by decide +kernel
theorem dX5_come_25 : decode cX5_come 25 = .ok (.iload_n 1, 1) := by decide +kernel
theorem dX5_come_26 : decode cX5_come 26 = .ok (.iaload, 1) := by decide +kernel
theorem dX5_come_27 : decode cX5_come 27 = .ok (.if_icmp .lt 5, 3) := by decide +kernel
theorem dX5_come_30 : decode cX5_come 30 = .ok (.iconst 0, 1) := by decide +kernel
theorem dX5_come_31 : decode cX5_come 31 = .ok (.ireturn, 1) := by decide +kernel
theorem dX5_come_32 : decode cX5_come 32 = .ok (.aload_n 0, 1) := by decide +kernel
theorem dX5_come_33 : decode cX5_come 33 = .ok (.getfield 66, 3) := by decide +kernel
theorem dX5_come_36 : decode cX5_come 36 = .ok (.iload_n 1, 1) := by decide +kernel
theorem dX5_come_37 : decode cX5_come 37 = .ok (.iload_n 2, 1) := by decide +kernel
theorem dX5_come_38 : decode cX5_come 38 = .ok (.iastore, 1) := by decide +kernel
theorem dX5_come_39 : decode cX5_come 39 = .ok (.aload_n 0, 1) := by decide +kernel
theorem dX5_come_40 : decode cX5_come 40 = .ok (.getfield 69, 3) := by decide +kernel
theorem dX5_come_43 : decode cX5_come 43 = .ok (.iload_n 1, 1) := by decide +kernel
theorem dX5_come_44 : decode cX5_come 44 = .ok (.iload_n 3, 1) := by decide +kernel
theorem dX5_come_45 : decode cX5_come 45 = .ok (.iastore, 1) := by decide +kernel
theorem dX5_come_46 : decode cX5_come 46 = .ok (.iconst 1, 1) := by decide +kernel
theorem dX5_come_47 : decode cX5_come 47 = .ok (.ireturn, 1) := by decide +kernel
theorem dX5_feeOf_0 : decode cX5_feeOf 0 = .ok (.iload_n 2, 1) := by decide +kernel
theorem dX5_feeOf_1 : decode cX5_feeOf 1 = .ok (.ifCond .le 12, 3) := by decide +kernel
theorem dX5_feeOf_4 : decode cX5_feeOf 4 = .ok (.aload_n 0, 1) := by decide +kernel
theorem dX5_feeOf_5 : decode cX5_feeOf 5 = .ok (.getfield 28, 3) := by decide +kernel
theorem dX5_feeOf_8 : decode cX5_feeOf 8 = .ok (.iload_n 1, 1) := by decide +kernel
theorem dX5_feeOf_9 : decode cX5_feeOf 9 = .ok (.iaload, 1) := by decide +kernel
theorem dX5_feeOf_10 : decode cX5_feeOf 10 = .ok (.goto 4, 3) := by decide +kernel
theorem dX5_feeOf_13 : decode cX5_feeOf 13 = .ok (.iconst 0, 1) := by decide +kernel
theorem dX5_feeOf_14 : decode cX5_feeOf 14 = .ok (.ireturn, 1) := by decide +kernel
theorem dX5_comeFrom_0 : decode cX5_comeFrom 0 = .ok (.iload_n 1, 1) := by decide +kernel
theorem dX5_comeFrom_1 : decode cX5_comeFrom 1 = .ok (.iconst 5, 1) := by decide +kernel
theorem dX5_comeFrom_2 : decode cX5_comeFrom 2 = .ok (.idiv, 1) := by decide +kernel
theorem dX5_comeFrom_3 : decode cX5_comeFrom 3 = .ok (.istore_n 2, 1) := by decide +kernel
theorem dX5_comeFrom_4 : decode cX5_comeFrom 4 = .ok (.iload_n 1, 1) := by decide +kernel
theorem dX5_comeFrom_5 : decode cX5_comeFrom 5 = .ok (.iconst 5, 1) := by decide +kernel
theorem dX5_comeFrom_6 : decode cX5_comeFrom 6 = .ok (.irem, 1) := by decide +kernel
theorem dX5_comeFrom_7 : decode cX5_comeFrom 7 = .ok (.istore_n 3, 1) := by decide +kernel
theorem dX5_comeFrom_8 : decode cX5_comeFrom 8 = .ok (.iconst 0, 1) := by decide +kernel
theorem dX5_comeFrom_9 : decode cX5_comeFrom 9 = .ok (.istore 4, 2) := by decide +kernel
theorem dX5_comeFrom_11 : decode cX5_comeFrom 11 = .ok (.iload 4, 2) := by decide +kernel
theorem dX5_comeFrom_13 : decode cX5_comeFrom 13 = .ok (.bipush 60, 2) := by decide +kernel
theorem dX5_comeFrom_15 : decode cX5_comeFrom 15 = .ok (.if_icmp .ge 26, 3) := by decide +kernel
theorem dX5_comeFrom_18 : decode cX5_comeFrom 18 = .ok (.aload_n 0, 1) := by decide +kernel
theorem dX5_comeFrom_19 : decode cX5_comeFrom 19 = .ok (.getfield 66, 3) := by decide +kernel
theorem dX5_comeFrom_22 : decode cX5_comeFrom 22 = .ok (.iload 4, 2) := by decide +kernel
theorem dX5_comeFrom_24 : decode cX5_comeFrom 24 = .ok (.ldc 108, 2) := by decide +kernel
theorem dX5_comeFrom_26 : decode cX5_comeFrom 26 = .ok (.iastore, 1) := by decide +kernel
theorem dX5_comeFrom_27 : decode cX5_comeFrom 27 = .ok (.aload_n 0, 1) := by decide +kernel
theorem dX5_comeFrom_28 : decode cX5_comeFrom 28 = .ok (.getfield 69, 3) := by decide +kernel
theorem dX5_comeFrom_31 : decode cX5_comeFrom 31 = .ok (.iload 4, 2) := by decide +kernel
theorem dX5_comeFrom_33 : decode cX5_comeFrom 33 = .ok (.iconst 0, 1) := by decide +kernel
theorem dX5_comeFrom_34 : decode cX5_comeFrom 34 = .ok (.iastore, 1) := by decide +kernel
theorem dX5_comeFrom_35 : decode cX5_comeFrom 35 = .ok (.iinc 4 1, 3) := by decide +kernel
theorem dX5_comeFrom_38 : decode cX5_comeFrom 38 = .ok (.goto (-27), 3) := by decide +kernel
theorem dX5_comeFrom_41 : decode cX5_comeFrom 41 = .ok (.aload_n 0, 1) := by decide +kernel
theorem dX5_comeFrom_42 : decode cX5_comeFrom 42 = .ok (.iconst 2, 1) := by decide +kernel
theorem dX5_comeFrom_43 : decode cX5_comeFrom 43 = .ok (.iload_n 2, 1) := by decide +kernel
theorem dX5_comeFrom_44 : decode cX5_comeFrom 44 = .ok (.imul, 1) := by decide +kernel
theorem dX5_comeFrom_45 : decode cX5_comeFrom 45 = .ok (.iconst 1, 1) := by decide +kernel
theorem dX5_comeFrom_46 : decode cX5_comeFrom 46 = .ok (.iadd, 1) := by decide +kernel
theorem dX5_comeFrom_47 : decode cX5_comeFrom 47 = .ok (.iconst 4, 1) := by decide +kernel
theorem dX5_comeFrom_48 : decode cX5_comeFrom 48 = .ok (.iload_n 3, 1) := by decide +kernel
theorem dX5_comeFrom_49 : decode cX5_comeFrom 49 = .ok (.isub, 1) := by decide +kernel
theorem dX5_comeFrom_50 : decode cX5_comeFrom 50 = .ok (.aload_n 0, 1) := by decide +kernel
theorem dX5_comeFrom_51 : decode cX5_comeFrom 51 = .ok (.getfield 22, 3) := by decide +kernel
theorem dX5_comeFrom_54 : decode cX5_comeFrom 54 = .ok (.iload_n 2, 1) := by decide +kernel
theorem dX5_comeFrom_55 : decode cX5_comeFrom 55 = .ok (.iaload, 1) := by decide +kernel
theorem dX5_comeFrom_56 : decode cX5_comeFrom 56 = .ok (.imul, 1) := by decide +kernel
theorem dX5_comeFrom_57 : decode cX5_comeFrom 57 = .ok (.aload_n 0, 1) := by decide +kernel
theorem dX5_comeFrom_58 : decode cX5_comeFrom 58 = .ok (.iload_n 2, 1) := by decide +kernel
theorem dX5_comeFrom_59 : decode cX5_comeFrom 59 = .ok (.iconst 4, 1) := by decide +kernel
theorem dX5_comeFrom_60 : decode cX5_comeFrom 60 = .ok (.iload_n 3, 1) := by decide +kernel
theorem dX5_comeFrom_61 : decode cX5_comeFrom 61 = .ok (.isub, 1) := by decide +kernel
theorem dX5_comeFrom_62 : decode cX5_comeFrom 62 = .ok (.invokevirtual 109, 3) := by decide +kernel
theorem dX5_comeFrom_65 : decode cX5_comeFrom 65 = .ok (.invokevirtual 113, 3) := by decide +kernel
theorem dX5_comeFrom_68 : decode cX5_comeFrom 68 = .ok (.istore 4, 2) := by decide +kernel
theorem dX5_comeFrom_70 : decode cX5_comeFrom 70 = .ok (.aload_n 0, 1) := by decide +kernel
theorem dX5_comeFrom_71 : decode cX5_comeFrom 71 = .ok (.getfield 25, 3) := by decide +kernel
theorem dX5_comeFrom_74 : decode cX5_comeFrom 74 = .ok (.iload_n 2, 1) := by decide +kernel
theorem dX5_comeFrom_75 : decode cX5_comeFrom 75 = .ok (.iaload, 1) := by decide +kernel
theorem dX5_comeFrom_76 : decode cX5_comeFrom 76 = .ok (.iconst 1, 1) := by decide +kernel
theorem dX5_comeFrom_77 : decode cX5_comeFrom 77 = .ok (.if_icmp .ne 7, 3) := by decide +kernel
theorem dX5_comeFrom_80 : decode cX5_comeFrom 80 = .ok (.iload_n 3, 1) := by decide +kernel
theorem dX5_comeFrom_81 : decode cX5_comeFrom 81 = .ok (.ifCond .ne 39, 3) := by decide +kernel
theorem dX5_comeFrom_84 : decode cX5_comeFrom 84 = .ok (.aload_n 0, 1) := by decide +kernel
theorem dX5_comeFrom_85 : decode cX5_comeFrom 85 = .ok (.iconst 2, 1) := by decide +kernel
theorem dX5_comeFrom_86 : decode cX5_comeFrom 86 = .ok (.iload_n 2, 1) := by decide +kernel
theorem dX5_comeFrom_87 : decode cX5_comeFrom 87 = .ok (.imul, 1) := by decide +kernel
theorem dX5_comeFrom_88 : decode cX5_comeFrom 88 = .ok (.iload_n 3, 1) := by decide +kernel
theorem dX5_comeFrom_89 : decode cX5_comeFrom 89 = .ok (.aload_n 0, 1) := by decide +kernel
theorem dX5_comeFrom_90 : decode cX5_comeFrom 90 = .ok (.getfield 22, 3) := by decide +kernel
theorem dX5_comeFrom_93 : decode cX5_comeFrom 93 = .ok (.iload_n 2, 1) := by decide +kernel
theorem dX5_comeFrom_94 : decode cX5_comeFrom 94 = .ok (.iaload, 1) := by decide +kernel
theorem dX5_comeFrom_95 : decode cX5_comeFrom 95 = .ok (.imul, 1) := by decide +kernel
theorem dX5_comeFrom_96 : decode cX5_comeFrom 96 = .ok (.aload_n 0, 1) := by decide +kernel
theorem dX5_comeFrom_97 : decode cX5_comeFrom 97 = .ok (.iload_n 2, 1) := by decide +kernel
theorem dX5_comeFrom_98 : decode cX5_comeFrom 98 = .ok (.iload_n 3, 1) := by decide +kernel
theorem dX5_comeFrom_99 : decode cX5_comeFrom 99 = .ok (.invokevirtual 109, 3) := by decide +kernel
theorem dX5_comeFrom_102 : decode cX5_comeFrom 102 = .ok (.invokevirtual 113, 3) := by decide +kernel
theorem dX5_comeFrom_105 : decode cX5_comeFrom 105 = .ok (.ifCond .ne 8, 3) := by decide +kernel
theorem dX5_comeFrom_108 : decode cX5_comeFrom 108 = .ok (.iload 4, 2) := by decide +kernel
theorem dX5_comeFrom_110 : decode cX5_comeFrom 110 = .ok (.ifCond .eq 7, 3) := by decide +kernel
theorem dX5_comeFrom_113 : decode cX5_comeFrom 113 = .ok (.iconst 1, 1) := by decide +kernel
theorem dX5_comeFrom_114 : decode cX5_comeFrom 114 = .ok (.goto 4, 3) := by decide +kernel
theorem dX5_comeFrom_117 : decode cX5_comeFrom 117 = .ok (.iconst 0, 1) := by decide +kernel
theorem dX5_comeFrom_118 : decode cX5_comeFrom 118 = .ok (.istore 4, 2) := by decide +kernel
theorem dX5_comeFrom_120 : decode cX5_comeFrom 120 = .ok (.iload 4, 2) := by decide +kernel
theorem dX5_comeFrom_122 : decode cX5_comeFrom 122 = .ok (.ifCond .eq 62, 3) := by decide +kernel
theorem dX5_comeFrom_125 : decode cX5_comeFrom 125 = .ok (.iconst 0, 1) := by decide +kernel
theorem dX5_comeFrom_126 : decode cX5_comeFrom 126 = .ok (.istore 4, 2) := by decide +kernel
theorem dX5_comeFrom_128 : decode cX5_comeFrom 128 = .ok (.iconst 0, 1) := by decide +kernel
theorem dX5_comeFrom_129 : decode cX5_comeFrom 129 = .ok (.istore 5, 2) := by decide +kernel
theorem dX5_comeFrom_131 : decode cX5_comeFrom 131 = .ok (.iload 5, 2) := by decide +kernel
theorem dX5_comeFrom_133 : decode cX5_comeFrom 133 = .ok (.iconst 2, 1) := by decide +kernel
theorem dX5_comeFrom_134 : decode cX5_comeFrom 134 = .ok (.aload_n 0, 1) := by decide +kernel
theorem dX5_comeFrom_135 : decode cX5_comeFrom 135 = .ok (.getfield 94, 3) := by decide +kernel
theorem dX5_comeFrom_138 : decode cX5_comeFrom 138 = .ok (.imul, 1) := by decide +kernel
theorem dX5_comeFrom_139 : decode cX5_comeFrom 139 = .ok (.if_icmp .ge 42, 3) := by decide +kernel
theorem dX5_comeFrom_142 : decode cX5_comeFrom 142 = .ok (.aload_n 0, 1) := by decide +kernel
theorem dX5_comeFrom_143 : decode cX5_comeFrom 143 = .ok (.getfield 66, 3) := by decide +kernel
theorem dX5_comeFrom_146 : decode cX5_comeFrom 146 = .ok (.iload 5, 2) := by decide +kernel
theorem dX5_comeFrom_148 : decode cX5_comeFrom 148 = .ok (.iaload, 1) := by decide +kernel
theorem dX5_comeFrom_149 : decode cX5_comeFrom 149 = .ok (.ldc 108, 2) := by decide +kernel
theorem dX5_comeFrom_151 : decode cX5_comeFrom 151 = .ok (.if_icmp .ge 24, 3) := by decide +kernel
theorem dX5_comeFrom_154 : decode cX5_comeFrom 154 = .ok (.aload_n 0, 1) := by decide +kernel
theorem dX5_comeFrom_155 : decode cX5_comeFrom 155 = .ok (.iload 5, 2) := by decide +kernel
theorem dX5_comeFrom_157 : decode cX5_comeFrom 157 = .ok (.invokevirtual 116, 3) := by decide +kernel
theorem dX5_comeFrom_160 : decode cX5_comeFrom 160 = .ok (.ifCond .ne 8, 3) := by decide +kernel
theorem dX5_comeFrom_163 : decode cX5_comeFrom 163 = .ok (.iload 4, 2) := by decide +kernel
theorem dX5_comeFrom_165 : decode cX5_comeFrom 165 = .ok (.ifCond .eq 7, 3) := by decide +kernel
theorem dX5_comeFrom_168 : decode cX5_comeFrom 168 = .ok (.iconst 1, 1) := by decide +kernel
theorem dX5_comeFrom_169 : decode cX5_comeFrom 169 = .ok (.goto 4, 3) := by decide +kernel
theorem dX5_comeFrom_172 : decode cX5_comeFrom 172 = .ok (.iconst 0, 1) := by decide +kernel
theorem dX5_comeFrom_173 : decode cX5_comeFrom 173 = .ok (.istore 4, 2) := by decide +kernel
theorem dX5_comeFrom_175 : decode cX5_comeFrom 175 = .ok (.iinc 5 1, 3) := by decide +kernel
theorem dX5_comeFrom_178 : decode cX5_comeFrom 178 = .ok (.goto (-47), 3) := by decide +kernel
theorem dX5_comeFrom_181 : decode cX5_comeFrom 181 = .ok (.goto (-61), 3) := by decide +kernel
theorem dX5_comeFrom_184 : decode cX5_comeFrom 184 = .ok (.return_, 1) := by decide +kernel
theorem dX5_goOn_0 : decode cX5_goOn 0 = .ok (.iconst 0, 1) := by decide +kernel
theorem dX5_goOn_1 : decode cX5_goOn 1 = .ok (.istore_n 2, 1) := by decide +kernel
theorem dX5_goOn_2 : decode cX5_goOn 2 = .ok (.iconst 0, 1) := by decide +kernel
theorem dX5_goOn_3 : decode cX5_goOn 3 = .ok (.istore_n 3, 1) := by decide +kernel
theorem dX5_goOn_4 : decode cX5_goOn 4 = .ok (.iload_n 3, 1) := by decide +kernel
theorem dX5_goOn_5 : decode cX5_goOn 5 = .ok (.aload_n 0, 1) := by decide +kernel
theorem dX5_goOn_6 : decode cX5_goOn 6 = .ok (.getfield 94, 3) := by decide +kernel
theorem dX5_goOn_9 : decode cX5_goOn 9 = .ok (.if_icmp .ge 161, 3) := by decide +kernel
theorem dX5_goOn_12 : decode cX5_goOn 12 = .ok (.aload_n 0, 1) := by decide +kernel
theorem dX5_goOn_13 : decode cX5_goOn 13 = .ok (.getfield 31, 3) := by decide +kernel
theorem dX5_goOn_16 : decode cX5_goOn 16 = .ok (.bipush 30, 2) := by decide +kernel
theorem dX5_goOn_18 : decode cX5_goOn 18 = .ok (.iload_n 1, 1) := by decide +kernel
theorem dX5_goOn_19 : decode cX5_goOn 19 = .ok (.iconst 2, 1) := by decide +kernel
theorem dX5_goOn_20 : decode cX5_goOn 20 = .ok (.idiv, 1) := by decide +kernel
theorem dX5_goOn_21 : decode cX5_goOn 21 = .ok (.imul, 1) := by decide +kernel
theorem dX5_goOn_22 : decode cX5_goOn 22 = .ok (.iload_n 3, 1) := by decide +kernel
theorem dX5_goOn_23 : decode cX5_goOn 23 = .ok (.iadd, 1) := by decide +kernel
theorem dX5_goOn_24 : decode cX5_goOn 24 = .ok (.baload, 1) := by decide +kernel
theorem dX5_goOn_25 : decode cX5_goOn 25 = .ok (.ifCond .ne 139, 3) := by decide +kernel
theorem dX5_goOn_28 : decode cX5_goOn 28 = .ok (.aload_n 0, 1) := by decide +kernel
theorem dX5_goOn_29 : decode cX5_goOn 29 = .ok (.getfield 16, 3) := by decide +kernel
theorem dX5_goOn_32 : decode cX5_goOn 32 = .ok (.iload_n 3, 1) := by decide +kernel
theorem dX5_goOn_33 : decode cX5_goOn 33 = .ok (.iaload, 1) := by decide +kernel
theorem dX5_goOn_34 : decode cX5_goOn 34 = .ok (.aload_n 0, 1) := by decide +kernel
theorem dX5_goOn_35 : decode cX5_goOn 35 = .ok (.iload_n 1, 1) := by decide +kernel
theorem dX5_goOn_36 : decode cX5_goOn 36 = .ok (.invokevirtual 119, 3) := by decide +kernel
theorem dX5_goOn_39 : decode cX5_goOn 39 = .ok (.if_icmp .ne 53, 3) := by decide +kernel
theorem dX5_goOn_42 : decode cX5_goOn 42 = .ok (.aload_n 0, 1) := by decide +kernel
theorem dX5_goOn_43 : decode cX5_goOn 43 = .ok (.iconst 2, 1) := by decide +kernel
theorem dX5_goOn_44 : decode cX5_goOn 44 = .ok (.iload_n 3, 1) := by decide +kernel
theorem dX5_goOn_45 : decode cX5_goOn 45 = .ok (.imul, 1) := by decide +kernel
theorem dX5_goOn_46 : decode cX5_goOn 46 = .ok (.iconst 1, 1) := by decide +kernel
theorem dX5_goOn_47 : decode cX5_goOn 47 = .ok (.iadd, 1) := by decide +kernel
theorem dX5_goOn_48 : decode cX5_goOn 48 = .ok (.aload_n 0, 1) := by decide +kernel
theorem dX5_goOn_49 : decode cX5_goOn 49 = .ok (.getfield 66, 3) := by decide +kernel
theorem dX5_goOn_52 : decode cX5_goOn 52 = .ok (.iload_n 1, 1) := by decide +kernel
theorem dX5_goOn_53 : decode cX5_goOn 53 = .ok (.iaload, 1) := by decide +kernel
theorem dX5_goOn_54 : decode cX5_goOn 54 = .ok (.iconst 4, 1) := by decide +kernel
theorem dX5_goOn_55 : decode cX5_goOn 55 = .ok (.aload_n 0, 1) := by decide +kernel
theorem dX5_goOn_56 : decode cX5_goOn 56 = .ok (.getfield 22, 3) := by decide +kernel
theorem dX5_goOn_59 : decode cX5_goOn 59 = .ok (.iload_n 3, 1) := by decide +kernel
theorem dX5_goOn_60 : decode cX5_goOn 60 = .ok (.iaload, 1) := by decide +kernel
theorem dX5_goOn_61 : decode cX5_goOn 61 = .ok (.imul, 1) := by decide +kernel
theorem dX5_goOn_62 : decode cX5_goOn 62 = .ok (.iadd, 1) := by decide +kernel
theorem dX5_goOn_63 : decode cX5_goOn 63 = .ok (.aload_n 0, 1) := by decide +kernel
theorem dX5_goOn_64 : decode cX5_goOn 64 = .ok (.getfield 69, 3) := by decide +kernel
theorem dX5_goOn_67 : decode cX5_goOn 67 = .ok (.iload_n 1, 1) := by decide +kernel
theorem dX5_goOn_68 : decode cX5_goOn 68 = .ok (.iaload, 1) := by decide +kernel
theorem dX5_goOn_69 : decode cX5_goOn 69 = .ok (.aload_n 0, 1) := by decide +kernel
theorem dX5_goOn_70 : decode cX5_goOn 70 = .ok (.getfield 28, 3) := by decide +kernel
theorem dX5_goOn_73 : decode cX5_goOn 73 = .ok (.iload_n 3, 1) := by decide +kernel
theorem dX5_goOn_74 : decode cX5_goOn 74 = .ok (.iaload, 1) := by decide +kernel
theorem dX5_goOn_75 : decode cX5_goOn 75 = .ok (.iadd, 1) := by decide +kernel
theorem dX5_goOn_76 : decode cX5_goOn 76 = .ok (.invokevirtual 113, 3) := by decide +kernel
theorem dX5_goOn_79 : decode cX5_goOn 79 = .ok (.ifCond .ne 7, 3) := by decide +kernel
theorem dX5_goOn_82 : decode cX5_goOn 82 = .ok (.iload_n 2, 1) := by decide +kernel
theorem dX5_goOn_83 : decode cX5_goOn 83 = .ok (.ifCond .eq 7, 3) := by decide +kernel
theorem dX5_goOn_86 : decode cX5_goOn 86 = .ok (.iconst 1, 1) := by decide +kernel
theorem dX5_goOn_87 : decode cX5_goOn 87 = .ok (.goto 4, 3) := by decide +kernel
theorem dX5_goOn_90 : decode cX5_goOn 90 = .ok (.iconst 0, 1) := by decide +kernel
theorem dX5_goOn_91 : decode cX5_goOn 91 = .ok (.istore_n 2, 1) := by decide +kernel
theorem dX5_goOn_92 : decode cX5_goOn 92 = .ok (.aload_n 0, 1) := by decide +kernel
theorem dX5_goOn_93 : decode cX5_goOn 93 = .ok (.getfield 19, 3) := by decide +kernel
theorem dX5_goOn_96 : decode cX5_goOn 96 = .ok (.iload_n 3, 1) := by decide +kernel
theorem dX5_goOn_97 : decode cX5_goOn 97 = .ok (.iaload, 1) := by decide +kernel
theorem dX5_goOn_98 : decode cX5_goOn 98 = .ok (.aload_n 0, 1) := by decide +kernel
theorem dX5_goOn_99 : decode cX5_goOn 99 = .ok (.iload_n 1, 1) := by decide +kernel
theorem dX5_goOn_100 : decode cX5_goOn 100 = .ok (.invokevirtual 119, 3) := by decide +kernel
theorem dX5_goOn_103 : decode cX5_goOn 103 = .ok (.if_icmp .ne 61, 3) := by decide +kernel
theorem dX5_goOn_106 : decode cX5_goOn 106 = .ok (.aload_n 0, 1) := by decide +kernel
theorem dX5_goOn_107 : decode cX5_goOn 107 = .ok (.getfield 25, 3) := by decide +kernel
theorem dX5_goOn_110 : decode cX5_goOn 110 = .ok (.iload_n 3, 1) := by decide +kernel
theorem dX5_goOn_111 : decode cX5_goOn 111 = .ok (.iaload, 1) := by decide +kernel
theorem dX5_goOn_112 : decode cX5_goOn 112 = .ok (.iconst 1, 1) := by decide +kernel
theorem dX5_goOn_113 : decode cX5_goOn 113 = .ok (.if_icmp .eq 51, 3) := by decide +kernel
theorem dX5_goOn_116 : decode cX5_goOn 116 = .ok (.aload_n 0, 1) := by decide +kernel
theorem dX5_goOn_117 : decode cX5_goOn 117 = .ok (.iconst 2, 1) := by decide +kernel
theorem dX5_goOn_118 : decode cX5_goOn 118 = .ok (.iload_n 3, 1) := by decide +kernel
theorem dX5_goOn_119 : decode cX5_goOn 119 = .ok (.imul, 1) := by decide +kernel
theorem dX5_goOn_120 : decode cX5_goOn 120 = .ok (.aload_n 0, 1) := by decide +kernel
theorem dX5_goOn_121 : decode cX5_goOn 121 = .ok (.getfield 66, 3) := by decide +kernel
theorem dX5_goOn_124 : decode cX5_goOn 124 = .ok (.iload_n 1, 1) := by decide +kernel
theorem dX5_goOn_125 : decode cX5_goOn 125 = .ok (.iaload, 1) := by decide +kernel
theorem dX5_goOn_126 : decode cX5_goOn 126 = .ok (.iconst 4, 1) := by decide +kernel
theorem dX5_goOn_127 : decode cX5_goOn 127 = .ok (.aload_n 0, 1) := by decide +kernel
theorem dX5_goOn_128 : decode cX5_goOn 128 = .ok (.getfield 22, 3) := by decide +kernel
theorem dX5_goOn_131 : decode cX5_goOn 131 = .ok (.iload_n 3, 1) := by decide +kernel
theorem dX5_goOn_132 : decode cX5_goOn 132 = .ok (.iaload, 1) := by decide +kernel
theorem dX5_goOn_133 : decode cX5_goOn 133 = .ok (.imul, 1) := by decide +kernel
theorem dX5_goOn_134 : decode cX5_goOn 134 = .ok (.iadd, 1) := by decide +kernel
theorem dX5_goOn_135 : decode cX5_goOn 135 = .ok (.aload_n 0, 1) := by decide +kernel
theorem dX5_goOn_136 : decode cX5_goOn 136 = .ok (.getfield 69, 3) := by decide +kernel
theorem dX5_goOn_139 : decode cX5_goOn 139 = .ok (.iload_n 1, 1) := by decide +kernel
theorem dX5_goOn_140 : decode cX5_goOn 140 = .ok (.iaload, 1) := by decide +kernel
theorem dX5_goOn_141 : decode cX5_goOn 141 = .ok (.aload_n 0, 1) := by decide +kernel
theorem dX5_goOn_142 : decode cX5_goOn 142 = .ok (.getfield 28, 3) := by decide +kernel
theorem dX5_goOn_145 : decode cX5_goOn 145 = .ok (.iload_n 3, 1) := by decide +kernel
theorem dX5_goOn_146 : decode cX5_goOn 146 = .ok (.iaload, 1) := by decide +kernel
theorem dX5_goOn_147 : decode cX5_goOn 147 = .ok (.iadd, 1) := by decide +kernel
theorem dX5_goOn_148 : decode cX5_goOn 148 = .ok (.invokevirtual 113, 3) := by decide +kernel
theorem dX5_goOn_151 : decode cX5_goOn 151 = .ok (.ifCond .ne 7, 3) := by decide +kernel
theorem dX5_goOn_154 : decode cX5_goOn 154 = .ok (.iload_n 2, 1) := by decide +kernel
theorem dX5_goOn_155 : decode cX5_goOn 155 = .ok (.ifCond .eq 7, 3) := by decide +kernel
theorem dX5_goOn_158 : decode cX5_goOn 158 = .ok (.iconst 1, 1) := by decide +kernel
theorem dX5_goOn_159 : decode cX5_goOn 159 = .ok (.goto 4, 3) := by decide +kernel
theorem dX5_goOn_162 : decode cX5_goOn 162 = .ok (.iconst 0, 1) := by decide +kernel
theorem dX5_goOn_163 : decode cX5_goOn 163 = .ok (.istore_n 2, 1) := by decide +kernel
theorem dX5_goOn_164 : decode cX5_goOn 164 = .ok (.iinc 3 1, 3) := by decide +kernel
theorem dX5_goOn_167 : decode cX5_goOn 167 = .ok (.goto (-163), 3) := by decide +kernel
theorem dX5_goOn_170 : decode cX5_goOn 170 = .ok (.iload_n 2, 1) := by decide +kernel
theorem dX5_goOn_171 : decode cX5_goOn 171 = .ok (.ireturn, 1) := by decide +kernel
theorem dX5_offer_0 : decode cX5_offer 0 = .ok (.iload_n 2, 1) := by decide +kernel
theorem dX5_offer_1 : decode cX5_offer 1 = .ok (.aload_n 0, 1) := by decide +kernel
theorem dX5_offer_2 : decode cX5_offer 2 = .ok (.getfield 60, 3) := by decide +kernel
theorem dX5_offer_5 : decode cX5_offer 5 = .ok (.iload_n 1, 1) := by decide +kernel
theorem dX5_offer_6 : decode cX5_offer 6 = .ok (.iaload, 1) := by decide +kernel
theorem dX5_offer_7 : decode cX5_offer 7 = .ok (.if_icmp .lt 23, 3) := by decide +kernel
theorem dX5_offer_10 : decode cX5_offer 10 = .ok (.iload_n 2, 1) := by decide +kernel
theorem dX5_offer_11 : decode cX5_offer 11 = .ok (.aload_n 0, 1) := by decide +kernel
theorem dX5_offer_12 : decode cX5_offer 12 = .ok (.getfield 60, 3) := by decide +kernel
theorem dX5_offer_15 : decode cX5_offer 15 = .ok (.iload_n 1, 1) := by decide +kernel
theorem dX5_offer_16 : decode cX5_offer 16 = .ok (.iaload, 1) := by decide +kernel
theorem dX5_offer_17 : decode cX5_offer 17 = .ok (.if_icmp .ne 27, 3) := by decide +kernel
theorem dX5_offer_20 : decode cX5_offer 20 = .ok (.iload_n 3, 1) := by decide +kernel
theorem dX5_offer_21 : decode cX5_offer 21 = .ok (.aload_n 0, 1) := by decide +kernel
theorem dX5_offer_22 : decode cX5_offer 22 = .ok (.getfield 63, 3) := by decide +kernel
theorem dX5_offer_25 : decode cX5_offer 25 = .ok (.iload_n 1, 1) := by decide +kernel
theorem dX5_offer_26 : decode cX5_offer 26 = .ok (.iaload, 1) := by decide +kernel
theorem dX5_offer_27 : decode cX5_offer 27 = .ok (.if_icmp .ge 17, 3) := by decide +kernel
theorem dX5_offer_30 : decode cX5_offer 30 = .ok (.aload_n 0, 1) := by decide +kernel
theorem dX5_offer_31 : decode cX5_offer 31 = .ok (.getfield 60, 3) := by decide +kernel
theorem dX5_offer_34 : decode cX5_offer 34 = .ok (.iload_n 1, 1) := by decide +kernel
theorem dX5_offer_35 : decode cX5_offer 35 = .ok (.iload_n 2, 1) := by decide +kernel
theorem dX5_offer_36 : decode cX5_offer 36 = .ok (.iastore, 1) := by decide +kernel
theorem dX5_offer_37 : decode cX5_offer 37 = .ok (.aload_n 0, 1) := by decide +kernel
theorem dX5_offer_38 : decode cX5_offer 38 = .ok (.getfield 63, 3) := by decide +kernel
theorem dX5_offer_41 : decode cX5_offer 41 = .ok (.iload_n 1, 1) := by decide +kernel
theorem dX5_offer_42 : decode cX5_offer 42 = .ok (.iload_n 3, 1) := by decide +kernel
theorem dX5_offer_43 : decode cX5_offer 43 = .ok (.iastore, 1) := by decide +kernel
theorem dX5_offer_44 : decode cX5_offer 44 = .ok (.return_, 1) := by decide +kernel
theorem dX5_reach_0 : decode cX5_reach 0 = .ok (.sipush 150, 3) := by decide +kernel
theorem dX5_reach_3 : decode cX5_reach 3 = .ok (.iload_n 1, 1) := by decide +kernel
theorem dX5_reach_4 : decode cX5_reach 4 = .ok (.imul, 1) := by decide +kernel
theorem dX5_reach_5 : decode cX5_reach 5 = .ok (.iload_n 2, 1) := by decide +kernel
theorem dX5_reach_6 : decode cX5_reach 6 = .ok (.iadd, 1) := by decide +kernel
theorem dX5_reach_7 : decode cX5_reach 7 = .ok (.istore_n 3, 1) := by decide +kernel
theorem dX5_reach_8 : decode cX5_reach 8 = .ok (.iload_n 2, 1) := by decide +kernel
theorem dX5_reach_9 : decode cX5_reach 9 = .ok (.iconst 5, 1) := by decide +kernel
theorem dX5_reach_10 : decode cX5_reach 10 = .ok (.idiv, 1) := by decide +kernel
theorem dX5_reach_11 : decode cX5_reach 11 = .ok (.istore 4, 2) := by decide +kernel
theorem dX5_reach_13 : decode cX5_reach 13 = .ok (.iload_n 2, 1) := by decide +kernel
theorem dX5_reach_14 : decode cX5_reach 14 = .ok (.iconst 5, 1) := by decide +kernel
theorem dX5_reach_15 : decode cX5_reach 15 = .ok (.irem, 1) := by decide +kernel
theorem dX5_reach_16 : decode cX5_reach 16 = .ok (.istore 5, 2) := by decide +kernel
theorem dX5_reach_18 : decode cX5_reach 18 = .ok (.aload_n 0, 1) := by decide +kernel
theorem dX5_reach_19 : decode cX5_reach 19 = .ok (.getfield 60, 3) := by decide +kernel
theorem dX5_reach_22 : decode cX5_reach 22 = .ok (.iload_n 3, 1) := by decide +kernel
theorem dX5_reach_23 : decode cX5_reach 23 = .ok (.iload_n 1, 1) := by decide +kernel
theorem dX5_reach_24 : decode cX5_reach 24 = .ok (.iload_n 2, 1) := by decide +kernel
theorem dX5_reach_25 : decode cX5_reach 25 = .ok (.if_icmp .ne 7, 3) := by decide +kernel
theorem dX5_reach_28 : decode cX5_reach 28 = .ok (.iconst 0, 1) := by decide +kernel
theorem dX5_reach_29 : decode cX5_reach 29 = .ok (.goto 5, 3) := by decide +kernel
theorem dX5_reach_32 : decode cX5_reach 32 = .ok (.ldc 108, 2) := by decide +kernel
theorem dX5_reach_34 : decode cX5_reach 34 = .ok (.iastore, 1) := by decide +kernel
theorem dX5_reach_35 : decode cX5_reach 35 = .ok (.aload_n 0, 1) := by decide +kernel
theorem dX5_reach_36 : decode cX5_reach 36 = .ok (.getfield 63, 3) := by decide +kernel
theorem dX5_reach_39 : decode cX5_reach 39 = .ok (.iload_n 3, 1) := by decide +kernel
theorem dX5_reach_40 : decode cX5_reach 40 = .ok (.iconst 0, 1) := by decide +kernel
theorem dX5_reach_41 : decode cX5_reach 41 = .ok (.iastore, 1) := by decide +kernel
theorem dX5_reach_42 : decode cX5_reach 42 = .ok (.iload_n 1, 1) := by decide +kernel
theorem dX5_reach_43 : decode cX5_reach 43 = .ok (.iload_n 2, 1) := by decide +kernel
theorem dX5_reach_44 : decode cX5_reach 44 = .ok (.if_icmp .ne 4, 3) := by decide +kernel
theorem dX5_reach_47 : decode cX5_reach 47 = .ok (.return_, 1) := by decide +kernel
theorem dX5_reach_48 : decode cX5_reach 48 = .ok (.iload 5, 2) := by decide +kernel
theorem dX5_reach_50 : decode cX5_reach 50 = .ok (.iload_n 1, 1) := by decide +kernel
theorem dX5_reach_51 : decode cX5_reach 51 = .ok (.iconst 5, 1) := by decide +kernel
theorem dX5_reach_52 : decode cX5_reach 52 = .ok (.irem, 1) := by decide +kernel
theorem dX5_reach_53 : decode cX5_reach 53 = .ok (.isub, 1) := by decide +kernel
theorem dX5_reach_54 : decode cX5_reach 54 = .ok (.istore 6, 2) := by decide +kernel
theorem dX5_reach_56 : decode cX5_reach 56 = .ok (.iload_n 1, 1) := by decide +kernel
theorem dX5_reach_57 : decode cX5_reach 57 = .ok (.iconst 5, 1) := by decide +kernel
theorem dX5_reach_58 : decode cX5_reach 58 = .ok (.idiv, 1) := by decide +kernel
theorem dX5_reach_59 : decode cX5_reach 59 = .ok (.iload 4, 2) := by decide +kernel
theorem dX5_reach_61 : decode cX5_reach 61 = .ok (.if_icmp .ne 57, 3) := by decide +kernel
theorem dX5_reach_64 : decode cX5_reach 64 = .ok (.iload 6, 2) := by decide +kernel
theorem dX5_reach_66 : decode cX5_reach 66 = .ok (.ifCond .gt 14, 3) := by decide +kernel
theorem dX5_reach_69 : decode cX5_reach 69 = .ok (.aload_n 0, 1) := by decide +kernel
theorem dX5_reach_70 : decode cX5_reach 70 = .ok (.getfield 25, 3) := by decide +kernel
theorem dX5_reach_73 : decode cX5_reach 73 = .ok (.iload 4, 2) := by decide +kernel
theorem dX5_reach_75 : decode cX5_reach 75 = .ok (.iaload, 1) := by decide +kernel
theorem dX5_reach_76 : decode cX5_reach 76 = .ok (.iconst 1, 1) := by decide +kernel
theorem dX5_reach_77 : decode cX5_reach 77 = .ok (.if_icmp .eq 41, 3) := by decide +kernel
theorem dX5_reach_80 : decode cX5_reach 80 = .ok (.iload 6, 2) := by decide +kernel
theorem dX5_reach_82 : decode cX5_reach 82 = .ok (.ifCond .ge 9, 3) := by decide +kernel
theorem dX5_reach_85 : decode cX5_reach 85 = .ok (.iload 6, 2) := by decide +kernel
theorem dX5_reach_87 : decode cX5_reach 87 = .ok (.ineg, 1) := by decide +kernel
theorem dX5_reach_88 : decode cX5_reach 88 = .ok (.goto 5, 3) := by decide +kernel
theorem dX5_reach_91 : decode cX5_reach 91 = .ok (.iload 6, 2) := by decide +kernel
theorem dX5_reach_93 : decode cX5_reach 93 = .ok (.aload_n 0, 1) := by decide +kernel
theorem dX5_reach_94 : decode cX5_reach 94 = .ok (.getfield 22, 3) := by decide +kernel
theorem dX5_reach_97 : decode cX5_reach 97 = .ok (.iload 4, 2) := by decide +kernel
theorem dX5_reach_99 : decode cX5_reach 99 = .ok (.iaload, 1) := by decide +kernel
theorem dX5_reach_100 : decode cX5_reach 100 = .ok (.imul, 1) := by decide +kernel
theorem dX5_reach_101 : decode cX5_reach 101 = .ok (.istore 7, 2) := by decide +kernel
theorem dX5_reach_103 : decode cX5_reach 103 = .ok (.aload_n 0, 1) := by decide +kernel
theorem dX5_reach_104 : decode cX5_reach 104 = .ok (.iload_n 3, 1) := by decide +kernel
theorem dX5_reach_105 : decode cX5_reach 105 = .ok (.iload 7, 2) := by decide +kernel
theorem dX5_reach_107 : decode cX5_reach 107 = .ok (.aload_n 0, 1) := by decide +kernel
theorem dX5_reach_108 : decode cX5_reach 108 = .ok (.iload 4, 2) := by decide +kernel
theorem dX5_reach_110 : decode cX5_reach 110 = .ok (.iload 7, 2) := by decide +kernel
theorem dX5_reach_112 : decode cX5_reach 112 = .ok (.invokevirtual 109, 3) := by decide +kernel
theorem dX5_reach_115 : decode cX5_reach 115 = .ok (.invokevirtual 123, 3) := by decide +kernel
theorem dX5_reach_118 : decode cX5_reach 118 = .ok (.iconst 0, 1) := by decide +kernel
theorem dX5_reach_119 : decode cX5_reach 119 = .ok (.istore 7, 2) := by decide +kernel
theorem dX5_reach_121 : decode cX5_reach 121 = .ok (.iload 7, 2) := by decide +kernel
theorem dX5_reach_123 : decode cX5_reach 123 = .ok (.iconst 2, 1) := by decide +kernel
theorem dX5_reach_124 : decode cX5_reach 124 = .ok (.aload_n 0, 1) := by decide +kernel
theorem dX5_reach_125 : decode cX5_reach 125 = .ok (.getfield 94, 3) := by decide +kernel
theorem dX5_reach_128 : decode cX5_reach 128 = .ok (.imul, 1) := by decide +kernel
theorem dX5_reach_129 : decode cX5_reach 129 = .ok (.if_icmp .ge 164, 3) := by decide +kernel
theorem dX5_reach_132 : decode cX5_reach 132 = .ok (.aload_n 0, 1) := by decide +kernel
theorem dX5_reach_133 : decode cX5_reach 133 = .ok (.getfield 66, 3) := by decide +kernel
theorem dX5_reach_136 : decode cX5_reach 136 = .ok (.iload 7, 2) := by decide +kernel
theorem dX5_reach_138 : decode cX5_reach 138 = .ok (.iaload, 1) := by decide +kernel
theorem dX5_reach_139 : decode cX5_reach 139 = .ok (.ldc 108, 2) := by decide +kernel
theorem dX5_reach_141 : decode cX5_reach 141 = .ok (.if_icmp .ge 146, 3) := by decide +kernel
theorem dX5_reach_144 : decode cX5_reach 144 = .ok (.aload_n 0, 1) := by decide +kernel
theorem dX5_reach_145 : decode cX5_reach 145 = .ok (.getfield 31, 3) := by decide +kernel
theorem dX5_reach_148 : decode cX5_reach 148 = .ok (.bipush 30, 2) := by decide +kernel
theorem dX5_reach_150 : decode cX5_reach 150 = .ok (.iload 7, 2) := by decide +kernel
theorem dX5_reach_152 : decode cX5_reach 152 = .ok (.iconst 2, 1) := by decide +kernel
theorem dX5_reach_153 : decode cX5_reach 153 = .ok (.idiv, 1) := by decide +kernel
theorem dX5_reach_154 : decode cX5_reach 154 = .ok (.imul, 1) := by decide +kernel
theorem dX5_reach_155 : decode cX5_reach 155 = .ok (.iload 4, 2) := by decide +kernel
theorem dX5_reach_157 : decode cX5_reach 157 = .ok (.iadd, 1) := by decide +kernel
theorem dX5_reach_158 : decode cX5_reach 158 = .ok (.baload, 1) := by decide +kernel
theorem dX5_reach_159 : decode cX5_reach 159 = .ok (.ifCond .ne 128, 3) := by decide +kernel
theorem dX5_reach_162 : decode cX5_reach 162 = .ok (.aload_n 0, 1) := by decide +kernel
theorem dX5_reach_163 : decode cX5_reach 163 = .ok (.getfield 16, 3) := by decide +kernel
theorem dX5_reach_166 : decode cX5_reach 166 = .ok (.iload 4, 2) := by decide +kernel
theorem dX5_reach_168 : decode cX5_reach 168 = .ok (.iaload, 1) := by decide +kernel
theorem dX5_reach_169 : decode cX5_reach 169 = .ok (.aload_n 0, 1) := by decide +kernel
theorem dX5_reach_170 : decode cX5_reach 170 = .ok (.iload 7, 2) := by decide +kernel
theorem dX5_reach_172 : decode cX5_reach 172 = .ok (.invokevirtual 119, 3) := by decide +kernel
theorem dX5_reach_175 : decode cX5_reach 175 = .ok (.if_icmp .ne 42, 3) := by decide +kernel
theorem dX5_reach_178 : decode cX5_reach 178 = .ok (.aload_n 0, 1) := by decide +kernel
theorem dX5_reach_179 : decode cX5_reach 179 = .ok (.iload_n 3, 1) := by decide +kernel
theorem dX5_reach_180 : decode cX5_reach 180 = .ok (.aload_n 0, 1) := by decide +kernel
theorem dX5_reach_181 : decode cX5_reach 181 = .ok (.getfield 66, 3) := by decide +kernel
theorem dX5_reach_184 : decode cX5_reach 184 = .ok (.iload 7, 2) := by decide +kernel
theorem dX5_reach_186 : decode cX5_reach 186 = .ok (.iaload, 1) := by decide +kernel
theorem dX5_reach_187 : decode cX5_reach 187 = .ok (.iload 5, 2) := by decide +kernel
theorem dX5_reach_189 : decode cX5_reach 189 = .ok (.aload_n 0, 1) := by decide +kernel
theorem dX5_reach_190 : decode cX5_reach 190 = .ok (.getfield 22, 3) := by decide +kernel
theorem dX5_reach_193 : decode cX5_reach 193 = .ok (.iload 4, 2) := by decide +kernel
theorem dX5_reach_195 : decode cX5_reach 195 = .ok (.iaload, 1) := by decide +kernel
theorem dX5_reach_196 : decode cX5_reach 196 = .ok (.imul, 1) := by decide +kernel
theorem dX5_reach_197 : decode cX5_reach 197 = .ok (.iadd, 1) := by decide +kernel
theorem dX5_reach_198 : decode cX5_reach 198 = .ok (.aload_n 0, 1) := by decide +kernel
theorem dX5_reach_199 : decode cX5_reach 199 = .ok (.getfield 69, 3) := by decide +kernel
theorem dX5_reach_202 : decode cX5_reach 202 = .ok (.iload 7, 2) := by decide +kernel
theorem dX5_reach_204 : decode cX5_reach 204 = .ok (.iaload, 1) := by decide +kernel
theorem dX5_reach_205 : decode cX5_reach 205 = .ok (.aload_n 0, 1) := by decide +kernel
theorem dX5_reach_206 : decode cX5_reach 206 = .ok (.iload 4, 2) := by decide +kernel
theorem dX5_reach_208 : decode cX5_reach 208 = .ok (.iload 5, 2) := by decide +kernel
theorem dX5_reach_210 : decode cX5_reach 210 = .ok (.invokevirtual 109, 3) := by decide +kernel
theorem dX5_reach_213 : decode cX5_reach 213 = .ok (.iadd, 1) := by decide +kernel
theorem dX5_reach_214 : decode cX5_reach 214 = .ok (.invokevirtual 123, 3) := by decide +kernel
theorem dX5_reach_217 : decode cX5_reach 217 = .ok (.aload_n 0, 1) := by decide +kernel
theorem dX5_reach_218 : decode cX5_reach 218 = .ok (.getfield 19, 3) := by decide +kernel
theorem dX5_reach_221 : decode cX5_reach 221 = .ok (.iload 4, 2) := by decide +kernel
theorem dX5_reach_223 : decode cX5_reach 223 = .ok (.iaload, 1) := by decide +kernel
theorem dX5_reach_224 : decode cX5_reach 224 = .ok (.aload_n 0, 1) := by decide +kernel
theorem dX5_reach_225 : decode cX5_reach 225 = .ok (.iload 7, 2) := by decide +kernel
theorem dX5_reach_227 : decode cX5_reach 227 = .ok (.invokevirtual 119, 3) := by decide +kernel
theorem dX5_reach_230 : decode cX5_reach 230 = .ok (.if_icmp .ne 57, 3) := by decide +kernel
theorem dX5_reach_233 : decode cX5_reach 233 = .ok (.aload_n 0, 1) := by decide +kernel
theorem dX5_reach_234 : decode cX5_reach 234 = .ok (.getfield 25, 3) := by decide +kernel
theorem dX5_reach_237 : decode cX5_reach 237 = .ok (.iload 4, 2) := by decide +kernel
theorem dX5_reach_239 : decode cX5_reach 239 = .ok (.iaload, 1) := by decide +kernel
theorem dX5_reach_240 : decode cX5_reach 240 = .ok (.iconst 1, 1) := by decide +kernel
theorem dX5_reach_241 : decode cX5_reach 241 = .ok (.if_icmp .eq 46, 3) := by decide +kernel
theorem dX5_reach_244 : decode cX5_reach 244 = .ok (.aload_n 0, 1) := by decide +kernel
theorem dX5_reach_245 : decode cX5_reach 245 = .ok (.iload_n 3, 1) := by decide +kernel
theorem dX5_reach_246 : decode cX5_reach 246 = .ok (.aload_n 0, 1) := by decide +kernel
theorem dX5_reach_247 : decode cX5_reach 247 = .ok (.getfield 66, 3) := by decide +kernel
theorem dX5_reach_250 : decode cX5_reach 250 = .ok (.iload 7, 2) := by decide +kernel
theorem dX5_reach_252 : decode cX5_reach 252 = .ok (.iaload, 1) := by decide +kernel
theorem dX5_reach_253 : decode cX5_reach 253 = .ok (.iconst 4, 1) := by decide +kernel
theorem dX5_reach_254 : decode cX5_reach 254 = .ok (.iload 5, 2) := by decide +kernel
theorem dX5_reach_256 : decode cX5_reach 256 = .ok (.isub, 1) := by decide +kernel
theorem dX5_reach_257 : decode cX5_reach 257 = .ok (.aload_n 0, 1) := by decide +kernel
theorem dX5_reach_258 : decode cX5_reach 258 = .ok (.getfield 22, 3) := by decide +kernel
theorem dX5_reach_261 : decode cX5_reach 261 = .ok (.iload 4, 2) := by decide +kernel
theorem dX5_reach_263 : decode cX5_reach 263 = .ok (.iaload, 1) := by decide +kernel
theorem dX5_reach_264 : decode cX5_reach 264 = .ok (.imul, 1) := by decide +kernel
theorem dX5_reach_265 : decode cX5_reach 265 = .ok (.iadd, 1) := by decide +kernel
theorem dX5_reach_266 : decode cX5_reach 266 = .ok (.aload_n 0, 1) := by decide +kernel
theorem dX5_reach_267 : decode cX5_reach 267 = .ok (.getfield 69, 3) := by decide +kernel
theorem dX5_reach_270 : decode cX5_reach 270 = .ok (.iload 7, 2) := by decide +kernel
theorem dX5_reach_272 : decode cX5_reach 272 = .ok (.iaload, 1) := by decide +kernel
theorem dX5_reach_273 : decode cX5_reach 273 = .ok (.aload_n 0, 1) := by decide +kernel
theorem dX5_reach_274 : decode cX5_reach 274 = .ok (.iload 4, 2) := by decide +kernel
theorem dX5_reach_276 : decode cX5_reach 276 = .ok (.iconst 4, 1) := by decide +kernel
theorem dX5_reach_277 : decode cX5_reach 277 = .ok (.iload 5, 2) := by decide +kernel
theorem dX5_reach_279 : decode cX5_reach 279 = .ok (.isub, 1) := by decide +kernel
theorem dX5_reach_280 : decode cX5_reach 280 = .ok (.invokevirtual 109, 3) := by decide +kernel
theorem dX5_reach_283 : decode cX5_reach 283 = .ok (.iadd, 1) := by decide +kernel
theorem dX5_reach_284 : decode cX5_reach 284 = .ok (.invokevirtual 123, 3) := by decide +kernel
theorem dX5_reach_287 : decode cX5_reach 287 = .ok (.iinc 7 1, 3) := by decide +kernel
theorem dX5_reach_290 : decode cX5_reach 290 = .ok (.goto (-169), 3) := by decide +kernel
theorem dX5_reach_293 : decode cX5_reach 293 = .ok (.return_, 1) := by decide +kernel
theorem dX5_findWays_0 : decode cX5_findWays 0 = .ok (.aload_n 0, 1) := by decide +kernel
theorem dX5_findWays_1 : decode cX5_findWays 1 = .ok (.getfield 101, 3) := by decide +kernel
theorem dX5_findWays_4 : decode cX5_findWays 4 = .ok (.ifCond .eq 4, 3) := by decide +kernel
theorem dX5_findWays_7 : decode cX5_findWays 7 = .ok (.return_, 1) := by decide +kernel
theorem dX5_findWays_8 : decode cX5_findWays 8 = .ok (.iconst 0, 1) := by decide +kernel
theorem dX5_findWays_9 : decode cX5_findWays 9 = .ok (.istore_n 1, 1) := by decide +kernel
theorem dX5_findWays_10 : decode cX5_findWays 10 = .ok (.iload_n 1, 1) := by decide +kernel
theorem dX5_findWays_11 : decode cX5_findWays 11 = .ok (.iconst 5, 1) := by decide +kernel
theorem dX5_findWays_12 : decode cX5_findWays 12 = .ok (.aload_n 0, 1) := by decide +kernel
theorem dX5_findWays_13 : decode cX5_findWays 13 = .ok (.getfield 94, 3) := by decide +kernel
theorem dX5_findWays_16 : decode cX5_findWays 16 = .ok (.imul, 1) := by decide +kernel
theorem dX5_findWays_17 : decode cX5_findWays 17 = .ok (.if_icmp .ge 38, 3) := by decide +kernel
theorem dX5_findWays_20 : decode cX5_findWays 20 = .ok (.aload_n 0, 1) := by decide +kernel
theorem dX5_findWays_21 : decode cX5_findWays 21 = .ok (.iload_n 1, 1) := by decide +kernel
theorem dX5_findWays_22 : decode cX5_findWays 22 = .ok (.invokevirtual 127, 3) := by decide +kernel
theorem dX5_findWays_25 : decode cX5_findWays 25 = .ok (.iconst 0, 1) := by decide +kernel
theorem dX5_findWays_26 : decode cX5_findWays 26 = .ok (.istore_n 2, 1) := by decide +kernel
theorem dX5_findWays_27 : decode cX5_findWays 27 = .ok (.iload_n 2, 1) := by decide +kernel
theorem dX5_findWays_28 : decode cX5_findWays 28 = .ok (.iconst 5, 1) := by decide +kernel
theorem dX5_findWays_29 : decode cX5_findWays 29 = .ok (.aload_n 0, 1) := by decide +kernel
theorem dX5_findWays_30 : decode cX5_findWays 30 = .ok (.getfield 94, 3) := by decide +kernel
theorem dX5_findWays_33 : decode cX5_findWays 33 = .ok (.imul, 1) := by decide +kernel
theorem dX5_findWays_34 : decode cX5_findWays 34 = .ok (.if_icmp .ge 15, 3) := by decide +kernel
theorem dX5_findWays_37 : decode cX5_findWays 37 = .ok (.aload_n 0, 1) := by decide +kernel
theorem dX5_findWays_38 : decode cX5_findWays 38 = .ok (.iload_n 1, 1) := by decide +kernel
theorem dX5_findWays_39 : decode cX5_findWays 39 = .ok (.iload_n 2, 1) := by decide +kernel
theorem dX5_findWays_40 : decode cX5_findWays 40 = .ok (.invokevirtual 131, 3) := by decide +kernel
theorem dX5_findWays_43 : decode cX5_findWays 43 = .ok (.iinc 2 1, 3) := by decide +kernel
theorem dX5_findWays_46 : decode cX5_findWays 46 = .ok (.goto (-19), 3) := by decide +kernel
theorem dX5_findWays_49 : decode cX5_findWays 49 = .ok (.iinc 1 1, 3) := by decide +kernel
theorem dX5_findWays_52 : decode cX5_findWays 52 = .ok (.goto (-42), 3) := by decide +kernel
theorem dX5_findWays_55 : decode cX5_findWays 55 = .ok (.aload_n 0, 1) := by decide +kernel
theorem dX5_findWays_56 : decode cX5_findWays 56 = .ok (.iconst 1, 1) := by decide +kernel
theorem dX5_findWays_57 : decode cX5_findWays 57 = .ok (.putfield 101, 3) := by decide +kernel
theorem dX5_findWays_60 : decode cX5_findWays 60 = .ok (.return_, 1) := by decide +kernel
theorem dX5_way_0 : decode cX5_way 0 = .ok (.aload_n 0, 1) := by decide +kernel
theorem dX5_way_1 : decode cX5_way 1 = .ok (.iload_n 1, 1) := by decide +kernel
theorem dX5_way_2 : decode cX5_way 2 = .ok (.invokevirtual 135, 3) := by decide +kernel
theorem dX5_way_5 : decode cX5_way 5 = .ok (.ifCond .eq 11, 3) := by decide +kernel
theorem dX5_way_8 : decode cX5_way 8 = .ok (.aload_n 0, 1) := by decide +kernel
theorem dX5_way_9 : decode cX5_way 9 = .ok (.iload_n 2, 1) := by decide +kernel
theorem dX5_way_10 : decode cX5_way 10 = .ok (.invokevirtual 135, 3) := by decide +kernel
theorem dX5_way_13 : decode cX5_way 13 = .ok (.ifCond .ne 5, 3) := by decide +kernel
theorem dX5_way_16 : decode cX5_way 16 = .ok (.iconst (-1), 1) := by decide +kernel
theorem dX5_way_17 : decode cX5_way 17 = .ok (.ireturn, 1) := by decide +kernel
theorem dX5_way_18 : decode cX5_way 18 = .ok (.aload_n 0, 1) := by decide +kernel
theorem dX5_way_19 : decode cX5_way 19 = .ok (.invokevirtual 138, 3) := by decide +kernel
theorem dX5_way_22 : decode cX5_way 22 = .ok (.aload_n 0, 1) := by decide +kernel
theorem dX5_way_23 : decode cX5_way 23 = .ok (.getfield 60, 3) := by decide +kernel
theorem dX5_way_26 : decode cX5_way 26 = .ok (.sipush 150, 3) := by decide +kernel
theorem dX5_way_29 : decode cX5_way 29 = .ok (.iload_n 1, 1) := by decide +kernel
theorem dX5_way_30 : decode cX5_way 30 = .ok (.imul, 1) := by decide +kernel
theorem dX5_way_31 : decode cX5_way 31 = .ok (.iload_n 2, 1) := by decide +kernel
theorem dX5_way_32 : decode cX5_way 32 = .ok (.iadd, 1) := by decide +kernel
theorem dX5_way_33 : decode cX5_way 33 = .ok (.iaload, 1) := by decide +kernel
theorem dX5_way_34 : decode cX5_way 34 = .ok (.istore_n 3, 1) := by decide +kernel
theorem dX5_way_35 : decode cX5_way 35 = .ok (.iload_n 3, 1) := by decide +kernel
theorem dX5_way_36 : decode cX5_way 36 = .ok (.ldc 108, 2) := by decide +kernel
theorem dX5_way_38 : decode cX5_way 38 = .ok (.if_icmp .ge 7, 3) := by decide +kernel
theorem dX5_way_41 : decode cX5_way 41 = .ok (.iload_n 3, 1) := by decide +kernel
theorem dX5_way_42 : decode cX5_way 42 = .ok (.goto 5, 3) := by decide +kernel
theorem dX5_way_45 : decode cX5_way 45 = .ok (.bipush (-4), 2) := by decide +kernel
theorem dX5_way_47 : decode cX5_way 47 = .ok (.ireturn, 1) := by decide +kernel
theorem dX5_fees_0 : decode cX5_fees 0 = .ok (.aload_n 0, 1) := by decide +kernel
theorem dX5_fees_1 : decode cX5_fees 1 = .ok (.iload_n 1, 1) := by decide +kernel
theorem dX5_fees_2 : decode cX5_fees 2 = .ok (.invokevirtual 135, 3) := by decide +kernel
theorem dX5_fees_5 : decode cX5_fees 5 = .ok (.ifCond .eq 11, 3) := by decide +kernel
theorem dX5_fees_8 : decode cX5_fees 8 = .ok (.aload_n 0, 1) := by decide +kernel
theorem dX5_fees_9 : decode cX5_fees 9 = .ok (.iload_n 2, 1) := by decide +kernel
theorem dX5_fees_10 : decode cX5_fees 10 = .ok (.invokevirtual 135, 3) := by decide +kernel
theorem dX5_fees_13 : decode cX5_fees 13 = .ok (.ifCond .ne 5, 3) := by decide +kernel
theorem dX5_fees_16 : decode cX5_fees 16 = .ok (.iconst (-1), 1) := by decide +kernel
theorem dX5_fees_17 : decode cX5_fees 17 = .ok (.ireturn, 1) := by decide +kernel
theorem dX5_fees_18 : decode cX5_fees 18 = .ok (.aload_n 0, 1) := by decide +kernel
theorem dX5_fees_19 : decode cX5_fees 19 = .ok (.invokevirtual 138, 3) := by decide +kernel
theorem dX5_fees_22 : decode cX5_fees 22 = .ok (.aload_n 0, 1) := by decide +kernel
theorem dX5_fees_23 : decode cX5_fees 23 = .ok (.getfield 60, 3) := by decide +kernel
theorem dX5_fees_26 : decode cX5_fees 26 = .ok (.sipush 150, 3) := by decide +kernel
theorem dX5_fees_29 : decode cX5_fees 29 = .ok (.iload_n 1, 1) := by decide +kernel
theorem dX5_fees_30 : decode cX5_fees 30 = .ok (.imul, 1) := by decide +kernel
theorem dX5_fees_31 : decode cX5_fees 31 = .ok (.iload_n 2, 1) := by decide +kernel
theorem dX5_fees_32 : decode cX5_fees 32 = .ok (.iadd, 1) := by decide +kernel
theorem dX5_fees_33 : decode cX5_fees 33 = .ok (.iaload, 1) := by decide +kernel
theorem dX5_fees_34 : decode cX5_fees 34 = .ok (.ldc 108, 2) := by decide +kernel
theorem dX5_fees_36 : decode cX5_fees 36 = .ok (.if_icmp .ge 18, 3) := by decide +kernel
theorem dX5_fees_39 : decode cX5_fees 39 = .ok (.aload_n 0, 1) := by decide +kernel
theorem dX5_fees_40 : decode cX5_fees 40 = .ok (.getfield 63, 3) := by decide +kernel
theorem dX5_fees_43 : decode cX5_fees 43 = .ok (.sipush 150, 3) := by decide +kernel
theorem dX5_fees_46 : decode cX5_fees 46 = .ok (.iload_n 1, 1) := by decide +kernel
theorem dX5_fees_47 : decode cX5_fees 47 = .ok (.imul, 1) := by decide +kernel
theorem dX5_fees_48 : decode cX5_fees 48 = .ok (.iload_n 2, 1) := by decide +kernel
theorem dX5_fees_49 : decode cX5_fees 49 = .ok (.iadd, 1) := by decide +kernel
theorem dX5_fees_50 : decode cX5_fees 50 = .ok (.iaload, 1) := by decide +kernel
theorem dX5_fees_51 : decode cX5_fees 51 = .ok (.goto 5, 3) := by decide +kernel
theorem dX5_fees_54 : decode cX5_fees 54 = .ok (.bipush (-4), 2) := by decide +kernel
theorem dX5_fees_56 : decode cX5_fees 56 = .ok (.ireturn, 1) := by decide +kernel
theorem dX5_isDrive_0 : decode cX5_isDrive 0 = .ok (.iload_n 1, 1) := by decide +kernel
theorem dX5_isDrive_1 : decode cX5_isDrive 1 = .ok (.ifCond .lt 15, 3) := by decide +kernel
theorem dX5_isDrive_4 : decode cX5_isDrive 4 = .ok (.iload_n 1, 1) := by decide +kernel
theorem dX5_isDrive_5 : decode cX5_isDrive 5 = .ok (.aload_n 0, 1) := by decide +kernel
theorem dX5_isDrive_6 : decode cX5_isDrive 6 = .ok (.getfield 141, 3) := by decide +kernel
theorem dX5_isDrive_9 : decode cX5_isDrive 9 = .ok (.if_icmp .ge 7, 3) := by decide +kernel
theorem dX5_isDrive_12 : decode cX5_isDrive 12 = .ok (.iconst 1, 1) := by decide +kernel
theorem dX5_isDrive_13 : decode cX5_isDrive 13 = .ok (.goto 4, 3) := by decide +kernel
theorem dX5_isDrive_16 : decode cX5_isDrive 16 = .ok (.iconst 0, 1) := by decide +kernel
theorem dX5_isDrive_17 : decode cX5_isDrive 17 = .ok (.ireturn, 1) := by decide +kernel
theorem dX5_isSight_0 : decode cX5_isSight 0 = .ok (.aload_n 0, 1) := by decide +kernel
theorem dX5_isSight_1 : decode cX5_isSight 1 = .ok (.iload_n 1, 1) := by decide +kernel
theorem dX5_isSight_2 : decode cX5_isSight 2 = .ok (.invokevirtual 144, 3) := by decide +kernel
theorem dX5_isSight_5 : decode cX5_isSight 5 = .ok (.ifCond .eq 21, 3) := by decide +kernel
theorem dX5_isSight_8 : decode cX5_isSight 8 = .ok (.iload_n 2, 1) := by decide +kernel
theorem dX5_isSight_9 : decode cX5_isSight 9 = .ok (.ifCond .lt 17, 3) := by decide +kernel
theorem dX5_isSight_12 : decode cX5_isSight 12 = .ok (.iload_n 2, 1) := by decide +kernel
theorem dX5_isSight_13 : decode cX5_isSight 13 = .ok (.aload_n 0, 1) := by decide +kernel
theorem dX5_isSight_14 : decode cX5_isSight 14 = .ok (.getfield 47, 3) := by decide +kernel
theorem dX5_isSight_17 : decode cX5_isSight 17 = .ok (.iload_n 1, 1) := by decide +kernel
theorem dX5_isSight_18 : decode cX5_isSight 18 = .ok (.iaload, 1) := by decide +kernel
theorem dX5_isSight_19 : decode cX5_isSight 19 = .ok (.if_icmp .ge 7, 3) := by decide +kernel
theorem dX5_isSight_22 : decode cX5_isSight 22 = .ok (.iconst 1, 1) := by decide +kernel
theorem dX5_isSight_23 : decode cX5_isSight 23 = .ok (.goto 4, 3) := by decide +kernel
theorem dX5_isSight_26 : decode cX5_isSight 26 = .ok (.iconst 0, 1) := by decide +kernel
theorem dX5_isSight_27 : decode cX5_isSight 27 = .ok (.ireturn, 1) := by decide +kernel
theorem dX5_drive_0 : decode cX5_drive 0 = .ok (.aload_n 0, 1) := by decide +kernel
theorem dX5_drive_1 : decode cX5_drive 1 = .ok (.getfield 141, 3) := by decide +kernel
theorem dX5_drive_4 : decode cX5_drive 4 = .ok (.bipush 6, 2) := by decide +kernel
theorem dX5_drive_6 : decode cX5_drive 6 = .ok (.if_icmp .ne 6, 3) := by decide +kernel
theorem dX5_drive_9 : decode cX5_drive 9 = .ok (.bipush (-2), 2) := by decide +kernel
theorem dX5_drive_11 : decode cX5_drive 11 = .ok (.ireturn, 1) := by decide +kernel
theorem dX5_drive_12 : decode cX5_drive 12 = .ok (.aload_n 0, 1) := by decide +kernel
theorem dX5_drive_13 : decode cX5_drive 13 = .ok (.dup, 1) := by decide +kernel
theorem dX5_drive_14 : decode cX5_drive 14 = .ok (.getfield 141, 3) := by decide +kernel
theorem dX5_drive_17 : decode cX5_drive 17 = .ok (.iconst 1, 1) := by decide +kernel
theorem dX5_drive_18 : decode cX5_drive 18 = .ok (.iadd, 1) := by decide +kernel
theorem dX5_drive_19 : decode cX5_drive 19 = .ok (.putfield 141, 3) := by decide +kernel
theorem dX5_drive_22 : decode cX5_drive 22 = .ok (.aload_n 0, 1) := by decide +kernel
theorem dX5_drive_23 : decode cX5_drive 23 = .ok (.getfield 141, 3) := by decide +kernel
theorem dX5_drive_26 : decode cX5_drive 26 = .ok (.iconst 1, 1) := by decide +kernel
theorem dX5_drive_27 : decode cX5_drive 27 = .ok (.isub, 1) := by decide +kernel
theorem dX5_drive_28 : decode cX5_drive 28 = .ok (.ireturn, 1) := by decide +kernel
end
section
theorem dX5_sight_0 : decode cX5_sight 0 = .ok (.aload_n 0, 1) := by decide +kernel
theorem dX5_sight_1 : decode cX5_sight 1 = .ok (.iload_n 1, 1) := by decide +kernel
theorem dX5_sight_2 : decode cX5_sight 2 = .ok (.invokevirtual 144, 3) := by decide +kernel
theorem dX5_sight_5 : decode cX5_sight 5 = .ok (.ifCond .eq 42, 3) := by decide +kernel
theorem dX5_sight_8 : decode cX5_sight 8 = .ok (.iload_n 2, 1) := by decide +kernel
theorem dX5_sight_9 : decode cX5_sight 9 = .ok (.ifCond .lt 38, 3) := by decide +kernel
theorem dX5_sight_12 : decode cX5_sight 12 = .ok (.iload_n 2, 1) := by decide +kernel
theorem dX5_sight_13 : decode cX5_sight 13 = .ok (.bipush 100, 2) := by decide +kernel
theorem dX5_sight_15 : decode cX5_sight 15 = .ok (.idiv, 1) := by decide +kernel
theorem dX5_sight_16 : decode cX5_sight 16 = .ok (.iconst 0, 1) := by decide +kernel
theorem dX5_sight_17 : decode cX5_sight 17 = .ok (.bipush 99, 2) := by decide +kernel
theorem dX5_sight_19 : decode cX5_sight 19 = .ok (.invokestatic 87, 3) := by decide +kernel
theorem dX5_sight_22 : decode cX5_sight 22 = .ok (.ifCond .eq 25, 3) := by decide +kernel
theorem dX5_sight_25 : decode cX5_sight 25 = .ok (.iload_n 3, 1) := by decide +kernel
theorem dX5_sight_26 : decode cX5_sight 26 = .ok (.iconst 0, 1) := by decide +kernel
theorem dX5_sight_27 : decode cX5_sight 27 = .ok (.sipush 10000, 3) := by decide +kernel
theorem dX5_sight_30 : decode cX5_sight 30 = .ok (.invokestatic 87, 3) := by decide +kernel
theorem dX5_sight_33 : decode cX5_sight 33 = .ok (.ifCond .eq 14, 3) := by decide +kernel
theorem dX5_sight_36 : decode cX5_sight 36 = .ok (.iload 4, 2) := by decide +kernel
theorem dX5_sight_38 : decode cX5_sight 38 = .ok (.iconst 0, 1) := by decide +kernel
theorem dX5_sight_39 : decode cX5_sight 39 = .ok (.bipush 60, 2) := by decide +kernel
theorem dX5_sight_41 : decode cX5_sight 41 = .ok (.invokestatic 87, 3) := by decide +kernel
theorem dX5_sight_44 : decode cX5_sight 44 = .ok (.ifCond .ne 5, 3) := by decide +kernel
theorem dX5_sight_47 : decode cX5_sight 47 = .ok (.iconst (-1), 1) := by decide +kernel
theorem dX5_sight_48 : decode cX5_sight 48 = .ok (.ireturn, 1) := by decide +kernel
theorem dX5_sight_49 : decode cX5_sight 49 = .ok (.aload_n 0, 1) := by decide +kernel
theorem dX5_sight_50 : decode cX5_sight 50 = .ok (.getfield 47, 3) := by decide +kernel
theorem dX5_sight_53 : decode cX5_sight 53 = .ok (.iload_n 1, 1) := by decide +kernel
theorem dX5_sight_54 : decode cX5_sight 54 = .ok (.iaload, 1) := by decide +kernel
theorem dX5_sight_55 : decode cX5_sight 55 = .ok (.istore 5, 2) := by decide +kernel
theorem dX5_sight_57 : decode cX5_sight 57 = .ok (.iload 5, 2) := by decide +kernel
theorem dX5_sight_59 : decode cX5_sight 59 = .ok (.ifCond .le 23, 3) := by decide +kernel
theorem dX5_sight_62 : decode cX5_sight 62 = .ok (.iload_n 3, 1) := by decide +kernel
theorem dX5_sight_63 : decode cX5_sight 63 = .ok (.aload_n 0, 1) := by decide +kernel
theorem dX5_sight_64 : decode cX5_sight 64 = .ok (.getfield 41, 3) := by decide +kernel
theorem dX5_sight_67 : decode cX5_sight 67 = .ok (.bipush 20, 2) := by decide +kernel
theorem dX5_sight_69 : decode cX5_sight 69 = .ok (.iload_n 1, 1) := by decide +kernel
theorem dX5_sight_70 : decode cX5_sight 70 = .ok (.imul, 1) := by decide +kernel
theorem dX5_sight_71 : decode cX5_sight 71 = .ok (.iload 5, 2) := by decide +kernel
theorem dX5_sight_73 : decode cX5_sight 73 = .ok (.iadd, 1) := by decide +kernel
theorem dX5_sight_74 : decode cX5_sight 74 = .ok (.iconst 1, 1) := by decide +kernel
theorem dX5_sight_75 : decode cX5_sight 75 = .ok (.isub, 1) := by decide +kernel
theorem dX5_sight_76 : decode cX5_sight 76 = .ok (.iaload, 1) := by decide +kernel
theorem dX5_sight_77 : decode cX5_sight 77 = .ok (.if_icmp .gt 5, 3) := by decide +kernel
theorem dX5_sight_80 : decode cX5_sight 80 = .ok (.iconst (-1), 1) := by decide +kernel
theorem dX5_sight_81 : decode cX5_sight 81 = .ok (.ireturn, 1) := by decide +kernel
theorem dX5_sight_82 : decode cX5_sight 82 = .ok (.iload 5, 2) := by decide +kernel
theorem dX5_sight_84 : decode cX5_sight 84 = .ok (.bipush 20, 2) := by decide +kernel
theorem dX5_sight_86 : decode cX5_sight 86 = .ok (.if_icmp .ne 6, 3) := by decide +kernel
theorem dX5_sight_89 : decode cX5_sight 89 = .ok (.bipush (-2), 2) := by decide +kernel
theorem dX5_sight_91 : decode cX5_sight 91 = .ok (.ireturn, 1) := by decide +kernel
theorem dX5_sight_92 : decode cX5_sight 92 = .ok (.aload_n 0, 1) := by decide +kernel
theorem dX5_sight_93 : decode cX5_sight 93 = .ok (.getfield 35, 3) := by decide +kernel
theorem dX5_sight_96 : decode cX5_sight 96 = .ok (.bipush 20, 2) := by decide +kernel
theorem dX5_sight_98 : decode cX5_sight 98 = .ok (.iload_n 1, 1) := by decide +kernel
theorem dX5_sight_99 : decode cX5_sight 99 = .ok (.imul, 1) := by decide +kernel
theorem dX5_sight_100 : decode cX5_sight 100 = .ok (.iload 5, 2) := by decide +kernel
theorem dX5_sight_102 : decode cX5_sight 102 = .ok (.iadd, 1) := by decide +kernel
theorem dX5_sight_103 : decode cX5_sight 103 = .ok (.iload_n 2, 1) := by decide +kernel
theorem dX5_sight_104 : decode cX5_sight 104 = .ok (.bipush 100, 2) := by decide +kernel
theorem dX5_sight_106 : decode cX5_sight 106 = .ok (.idiv, 1) := by decide +kernel
theorem dX5_sight_107 : decode cX5_sight 107 = .ok (.iastore, 1) := by decide +kernel
theorem dX5_sight_108 : decode cX5_sight 108 = .ok (.aload_n 0, 1) := by decide +kernel
theorem dX5_sight_109 : decode cX5_sight 109 = .ok (.getfield 38, 3) := by decide +kernel
theorem dX5_sight_112 : decode cX5_sight 112 = .ok (.bipush 20, 2) := by decide +kernel
theorem dX5_sight_114 : decode cX5_sight 114 = .ok (.iload_n 1, 1) := by decide +kernel
theorem dX5_sight_115 : decode cX5_sight 115 = .ok (.imul, 1) := by decide +kernel
theorem dX5_sight_116 : decode cX5_sight 116 = .ok (.iload 5, 2) := by decide +kernel
theorem dX5_sight_118 : decode cX5_sight 118 = .ok (.iadd, 1) := by decide +kernel
theorem dX5_sight_119 : decode cX5_sight 119 = .ok (.iload_n 2, 1) := by decide +kernel
theorem dX5_sight_120 : decode cX5_sight 120 = .ok (.bipush 100, 2) := by decide +kernel
theorem dX5_sight_122 : decode cX5_sight 122 = .ok (.irem, 1) := by decide +kernel
theorem dX5_sight_123 : decode cX5_sight 123 = .ok (.iastore, 1) := by decide +kernel
theorem dX5_sight_124 : decode cX5_sight 124 = .ok (.aload_n 0, 1) := by decide +kernel
theorem dX5_sight_125 : decode cX5_sight 125 = .ok (.getfield 41, 3) := by decide +kernel
theorem dX5_sight_128 : decode cX5_sight 128 = .ok (.bipush 20, 2) := by decide +kernel
theorem dX5_sight_130 : decode cX5_sight 130 = .ok (.iload_n 1, 1) := by decide +kernel
theorem dX5_sight_131 : decode cX5_sight 131 = .ok (.imul, 1) := by decide +kernel
theorem dX5_sight_132 : decode cX5_sight 132 = .ok (.iload 5, 2) := by decide +kernel
theorem dX5_sight_134 : decode cX5_sight 134 = .ok (.iadd, 1) := by decide +kernel
theorem dX5_sight_135 : decode cX5_sight 135 = .ok (.iload_n 3, 1) := by decide +kernel
theorem dX5_sight_136 : decode cX5_sight 136 = .ok (.iastore, 1) := by decide +kernel
theorem dX5_sight_137 : decode cX5_sight 137 = .ok (.aload_n 0, 1) := by decide +kernel
theorem dX5_sight_138 : decode cX5_sight 138 = .ok (.getfield 44, 3) := by decide +kernel
theorem dX5_sight_141 : decode cX5_sight 141 = .ok (.bipush 20, 2) := by decide +kernel
theorem dX5_sight_143 : decode cX5_sight 143 = .ok (.iload_n 1, 1) := by decide +kernel
theorem dX5_sight_144 : decode cX5_sight 144 = .ok (.imul, 1) := by decide +kernel
theorem dX5_sight_145 : decode cX5_sight 145 = .ok (.iload 5, 2) := by decide +kernel
theorem dX5_sight_147 : decode cX5_sight 147 = .ok (.iadd, 1) := by decide +kernel
theorem dX5_sight_148 : decode cX5_sight 148 = .ok (.iload 4, 2) := by decide +kernel
theorem dX5_sight_150 : decode cX5_sight 150 = .ok (.iastore, 1) := by decide +kernel
theorem dX5_sight_151 : decode cX5_sight 151 = .ok (.aload_n 0, 1) := by decide +kernel
theorem dX5_sight_152 : decode cX5_sight 152 = .ok (.getfield 47, 3) := by decide +kernel
theorem dX5_sight_155 : decode cX5_sight 155 = .ok (.iload_n 1, 1) := by decide +kernel
theorem dX5_sight_156 : decode cX5_sight 156 = .ok (.dup2, 1) := by decide +kernel
theorem dX5_sight_157 : decode cX5_sight 157 = .ok (.iaload, 1) := by decide +kernel
theorem dX5_sight_158 : decode cX5_sight 158 = .ok (.iconst 1, 1) := by decide +kernel
theorem dX5_sight_159 : decode cX5_sight 159 = .ok (.iadd, 1) := by decide +kernel
theorem dX5_sight_160 : decode cX5_sight 160 = .ok (.iastore, 1) := by decide +kernel
theorem dX5_sight_161 : decode cX5_sight 161 = .ok (.iload 5, 2) := by decide +kernel
theorem dX5_sight_163 : decode cX5_sight 163 = .ok (.ireturn, 1) := by decide +kernel
theorem dX5_drop_0 : decode cX5_drop 0 = .ok (.aload_n 0, 1) := by decide +kernel
theorem dX5_drop_1 : decode cX5_drop 1 = .ok (.iload_n 1, 1) := by decide +kernel
theorem dX5_drop_2 : decode cX5_drop 2 = .ok (.invokevirtual 144, 3) := by decide +kernel
theorem dX5_drop_5 : decode cX5_drop 5 = .ok (.ifCond .ne 5, 3) := by decide +kernel
theorem dX5_drop_8 : decode cX5_drop 8 = .ok (.iconst (-1), 1) := by decide +kernel
theorem dX5_drop_9 : decode cX5_drop 9 = .ok (.ireturn, 1) := by decide +kernel
theorem dX5_drop_10 : decode cX5_drop 10 = .ok (.aload_n 0, 1) := by decide +kernel
theorem dX5_drop_11 : decode cX5_drop 11 = .ok (.getfield 47, 3) := by decide +kernel
theorem dX5_drop_14 : decode cX5_drop 14 = .ok (.iload_n 1, 1) := by decide +kernel
theorem dX5_drop_15 : decode cX5_drop 15 = .ok (.iaload, 1) := by decide +kernel
theorem dX5_drop_16 : decode cX5_drop 16 = .ok (.ifCond .ne 6, 3) := by decide +kernel
theorem dX5_drop_19 : decode cX5_drop 19 = .ok (.bipush (-3), 2) := by decide +kernel
theorem dX5_drop_21 : decode cX5_drop 21 = .ok (.ireturn, 1) := by decide +kernel
theorem dX5_drop_22 : decode cX5_drop 22 = .ok (.aload_n 0, 1) := by decide +kernel
theorem dX5_drop_23 : decode cX5_drop 23 = .ok (.getfield 47, 3) := by decide +kernel
theorem dX5_drop_26 : decode cX5_drop 26 = .ok (.iload_n 1, 1) := by decide +kernel
theorem dX5_drop_27 : decode cX5_drop 27 = .ok (.dup2, 1) := by decide +kernel
theorem dX5_drop_28 : decode cX5_drop 28 = .ok (.iaload, 1) := by decide +kernel
theorem dX5_drop_29 : decode cX5_drop 29 = .ok (.iconst 1, 1) := by decide +kernel
theorem dX5_drop_30 : decode cX5_drop 30 = .ok (.isub, 1) := by decide +kernel
theorem dX5_drop_31 : decode cX5_drop 31 = .ok (.iastore, 1) := by decide +kernel
theorem dX5_drop_32 : decode cX5_drop 32 = .ok (.aload_n 0, 1) := by decide +kernel
theorem dX5_drop_33 : decode cX5_drop 33 = .ok (.getfield 47, 3) := by decide +kernel
theorem dX5_drop_36 : decode cX5_drop 36 = .ok (.iload_n 1, 1) := by decide +kernel
theorem dX5_drop_37 : decode cX5_drop 37 = .ok (.iaload, 1) := by decide +kernel
theorem dX5_drop_38 : decode cX5_drop 38 = .ok (.ireturn, 1) := by decide +kernel
theorem dX5_prices_0 : decode cX5_prices 0 = .ok (.iload_n 1, 1) := by decide +kernel
theorem dX5_prices_1 : decode cX5_prices 1 = .ok (.iconst 1, 1) := by decide +kernel
theorem dX5_prices_2 : decode cX5_prices 2 = .ok (.bipush 100, 2) := by decide +kernel
theorem dX5_prices_4 : decode cX5_prices 4 = .ok (.invokestatic 87, 3) := by decide +kernel
theorem dX5_prices_7 : decode cX5_prices 7 = .ok (.ifCond .eq 14, 3) := by decide +kernel
theorem dX5_prices_10 : decode cX5_prices 10 = .ok (.iload_n 2, 1) := by decide +kernel
theorem dX5_prices_11 : decode cX5_prices 11 = .ok (.iconst 1, 1) := by decide +kernel
theorem dX5_prices_12 : decode cX5_prices 12 = .ok (.sipush 9999, 3) := by decide +kernel
theorem dX5_prices_15 : decode cX5_prices 15 = .ok (.invokestatic 87, 3) := by decide +kernel
theorem dX5_prices_18 : decode cX5_prices 18 = .ok (.ifCond .ne 5, 3) := by decide +kernel
theorem dX5_prices_21 : decode cX5_prices 21 = .ok (.iconst (-1), 1) := by decide +kernel
theorem dX5_prices_22 : decode cX5_prices 22 = .ok (.ireturn, 1) := by decide +kernel
theorem dX5_prices_23 : decode cX5_prices 23 = .ok (.aload_n 0, 1) := by decide +kernel
theorem dX5_prices_24 : decode cX5_prices 24 = .ok (.iload_n 1, 1) := by decide +kernel
theorem dX5_prices_25 : decode cX5_prices 25 = .ok (.putfield 50, 3) := by decide +kernel
theorem dX5_prices_28 : decode cX5_prices 28 = .ok (.aload_n 0, 1) := by decide +kernel
theorem dX5_prices_29 : decode cX5_prices 29 = .ok (.iload_n 2, 1) := by decide +kernel
theorem dX5_prices_30 : decode cX5_prices 30 = .ok (.putfield 54, 3) := by decide +kernel
theorem dX5_prices_33 : decode cX5_prices 33 = .ok (.iconst 1, 1) := by decide +kernel
theorem dX5_prices_34 : decode cX5_prices 34 = .ok (.ireturn, 1) := by decide +kernel
theorem dX5_offOf_0 : decode cX5_offOf 0 = .ok (.iload_n 3, 1) := by decide +kernel
theorem dX5_offOf_1 : decode cX5_offOf 1 = .ok (.iconst 5, 1) := by decide +kernel
theorem dX5_offOf_2 : decode cX5_offOf 2 = .ok (.idiv, 1) := by decide +kernel
theorem dX5_offOf_3 : decode cX5_offOf 3 = .ok (.istore 4, 2) := by decide +kernel
theorem dX5_offOf_5 : decode cX5_offOf 5 = .ok (.iload_n 3, 1) := by decide +kernel
theorem dX5_offOf_6 : decode cX5_offOf 6 = .ok (.iconst 5, 1) := by decide +kernel
theorem dX5_offOf_7 : decode cX5_offOf 7 = .ok (.irem, 1) := by decide +kernel
theorem dX5_offOf_8 : decode cX5_offOf 8 = .ok (.istore 5, 2) := by decide +kernel
theorem dX5_offOf_10 : decode cX5_offOf 10 = .ok (.iconst 4, 1) := by decide +kernel
theorem dX5_offOf_11 : decode cX5_offOf 11 = .ok (.aload_n 0, 1) := by decide +kernel
theorem dX5_offOf_12 : decode cX5_offOf 12 = .ok (.getfield 9, 3) := by decide +kernel
theorem dX5_offOf_15 : decode cX5_offOf 15 = .ok (.aload_n 0, 1) := by decide +kernel
theorem dX5_offOf_16 : decode cX5_offOf 16 = .ok (.getfield 16, 3) := by decide +kernel
theorem dX5_offOf_19 : decode cX5_offOf 19 = .ok (.iload 4, 2) := by decide +kernel
theorem dX5_offOf_21 : decode cX5_offOf 21 = .ok (.iaload, 1) := by decide +kernel
theorem dX5_offOf_22 : decode cX5_offOf 22 = .ok (.iaload, 1) := by decide +kernel
theorem dX5_offOf_23 : decode cX5_offOf 23 = .ok (.imul, 1) := by decide +kernel
theorem dX5_offOf_24 : decode cX5_offOf 24 = .ok (.iload 5, 2) := by decide +kernel
theorem dX5_offOf_26 : decode cX5_offOf 26 = .ok (.aload_n 0, 1) := by decide +kernel
theorem dX5_offOf_27 : decode cX5_offOf 27 = .ok (.getfield 9, 3) := by decide +kernel
theorem dX5_offOf_30 : decode cX5_offOf 30 = .ok (.aload_n 0, 1) := by decide +kernel
theorem dX5_offOf_31 : decode cX5_offOf 31 = .ok (.getfield 19, 3) := by decide +kernel
theorem dX5_offOf_34 : decode cX5_offOf 34 = .ok (.iload 4, 2) := by decide +kernel
theorem dX5_offOf_36 : decode cX5_offOf 36 = .ok (.iaload, 1) := by decide +kernel
theorem dX5_offOf_37 : decode cX5_offOf 37 = .ok (.iaload, 1) := by decide +kernel
theorem dX5_offOf_38 : decode cX5_offOf 38 = .ok (.aload_n 0, 1) := by decide +kernel
theorem dX5_offOf_39 : decode cX5_offOf 39 = .ok (.getfield 9, 3) := by decide +kernel
theorem dX5_offOf_42 : decode cX5_offOf 42 = .ok (.aload_n 0, 1) := by decide +kernel
theorem dX5_offOf_43 : decode cX5_offOf 43 = .ok (.getfield 16, 3) := by decide +kernel
theorem dX5_offOf_46 : decode cX5_offOf 46 = .ok (.iload 4, 2) := by decide +kernel
theorem dX5_offOf_48 : decode cX5_offOf 48 = .ok (.iaload, 1) := by decide +kernel
theorem dX5_offOf_49 : decode cX5_offOf 49 = .ok (.iaload, 1) := by decide +kernel
theorem dX5_offOf_50 : decode cX5_offOf 50 = .ok (.isub, 1) := by decide +kernel
theorem dX5_offOf_51 : decode cX5_offOf 51 = .ok (.imul, 1) := by decide +kernel
theorem dX5_offOf_52 : decode cX5_offOf 52 = .ok (.iadd, 1) := by decide +kernel
theorem dX5_offOf_53 : decode cX5_offOf 53 = .ok (.iconst 4, 1) := by decide +kernel
theorem dX5_offOf_54 : decode cX5_offOf 54 = .ok (.aload_n 0, 1) := by decide +kernel
theorem dX5_offOf_55 : decode cX5_offOf 55 = .ok (.getfield 35, 3) := by decide +kernel
theorem dX5_offOf_58 : decode cX5_offOf 58 = .ok (.bipush 20, 2) := by decide +kernel
theorem dX5_offOf_60 : decode cX5_offOf 60 = .ok (.iload_n 1, 1) := by decide +kernel
theorem dX5_offOf_61 : decode cX5_offOf 61 = .ok (.imul, 1) := by decide +kernel
theorem dX5_offOf_62 : decode cX5_offOf 62 = .ok (.iload_n 2, 1) := by decide +kernel
theorem dX5_offOf_63 : decode cX5_offOf 63 = .ok (.iadd, 1) := by decide +kernel
theorem dX5_offOf_64 : decode cX5_offOf 64 = .ok (.iaload, 1) := by decide +kernel
theorem dX5_offOf_65 : decode cX5_offOf 65 = .ok (.imul, 1) := by decide +kernel
theorem dX5_offOf_66 : decode cX5_offOf 66 = .ok (.isub, 1) := by decide +kernel
theorem dX5_offOf_67 : decode cX5_offOf 67 = .ok (.istore 6, 2) := by decide +kernel
theorem dX5_offOf_69 : decode cX5_offOf 69 = .ok (.iconst 4, 1) := by decide +kernel
theorem dX5_offOf_70 : decode cX5_offOf 70 = .ok (.aload_n 0, 1) := by decide +kernel
theorem dX5_offOf_71 : decode cX5_offOf 71 = .ok (.getfield 13, 3) := by decide +kernel
theorem dX5_offOf_74 : decode cX5_offOf 74 = .ok (.aload_n 0, 1) := by decide +kernel
theorem dX5_offOf_75 : decode cX5_offOf 75 = .ok (.getfield 16, 3) := by decide +kernel
theorem dX5_offOf_78 : decode cX5_offOf 78 = .ok (.iload 4, 2) := by decide +kernel
theorem dX5_offOf_80 : decode cX5_offOf 80 = .ok (.iaload, 1) := by decide +kernel
theorem dX5_offOf_81 : decode cX5_offOf 81 = .ok (.iaload, 1) := by decide +kernel
theorem dX5_offOf_82 : decode cX5_offOf 82 = .ok (.imul, 1) := by decide +kernel
theorem dX5_offOf_83 : decode cX5_offOf 83 = .ok (.iload 5, 2) := by decide +kernel
theorem dX5_offOf_85 : decode cX5_offOf 85 = .ok (.aload_n 0, 1) := by decide +kernel
theorem dX5_offOf_86 : decode cX5_offOf 86 = .ok (.getfield 13, 3) := by decide +kernel
theorem dX5_offOf_89 : decode cX5_offOf 89 = .ok (.aload_n 0, 1) := by decide +kernel
theorem dX5_offOf_90 : decode cX5_offOf 90 = .ok (.getfield 19, 3) := by decide +kernel
theorem dX5_offOf_93 : decode cX5_offOf 93 = .ok (.iload 4, 2) := by decide +kernel
theorem dX5_offOf_95 : decode cX5_offOf 95 = .ok (.iaload, 1) := by decide +kernel
theorem dX5_offOf_96 : decode cX5_offOf 96 = .ok (.iaload, 1) := by decide +kernel
theorem dX5_offOf_97 : decode cX5_offOf 97 = .ok (.aload_n 0, 1) := by decide +kernel
theorem dX5_offOf_98 : decode cX5_offOf 98 = .ok (.getfield 13, 3) := by decide +kernel
theorem dX5_offOf_101 : decode cX5_offOf 101 = .ok (.aload_n 0, 1) := by decide +kernel
theorem dX5_offOf_102 : decode cX5_offOf 102 = .ok (.getfield 16, 3) := by decide +kernel
theorem dX5_offOf_105 : decode cX5_offOf 105 = .ok (.iload 4, 2) := by decide +kernel
theorem dX5_offOf_107 : decode cX5_offOf 107 = .ok (.iaload, 1) := by decide +kernel
theorem dX5_offOf_108 : decode cX5_offOf 108 = .ok (.iaload, 1) := by decide +kernel
theorem dX5_offOf_109 : decode cX5_offOf 109 = .ok (.isub, 1) := by decide +kernel
theorem dX5_offOf_110 : decode cX5_offOf 110 = .ok (.imul, 1) := by decide +kernel
theorem dX5_offOf_111 : decode cX5_offOf 111 = .ok (.iadd, 1) := by decide +kernel
theorem dX5_offOf_112 : decode cX5_offOf 112 = .ok (.iconst 4, 1) := by decide +kernel
theorem dX5_offOf_113 : decode cX5_offOf 113 = .ok (.aload_n 0, 1) := by decide +kernel
theorem dX5_offOf_114 : decode cX5_offOf 114 = .ok (.getfield 38, 3) := by decide +kernel
theorem dX5_offOf_117 : decode cX5_offOf 117 = .ok (.bipush 20, 2) := by decide +kernel
theorem dX5_offOf_119 : decode cX5_offOf 119 = .ok (.iload_n 1, 1) := by decide +kernel
theorem dX5_offOf_120 : decode cX5_offOf 120 = .ok (.imul, 1) := by decide +kernel
theorem dX5_offOf_121 : decode cX5_offOf 121 = .ok (.iload_n 2, 1) := by decide +kernel
theorem dX5_offOf_122 : decode cX5_offOf 122 = .ok (.iadd, 1) := by decide +kernel
theorem dX5_offOf_123 : decode cX5_offOf 123 = .ok (.iaload, 1) := by decide +kernel
theorem dX5_offOf_124 : decode cX5_offOf 124 = .ok (.imul, 1) := by decide +kernel
theorem dX5_offOf_125 : decode cX5_offOf 125 = .ok (.isub, 1) := by decide +kernel
theorem dX5_offOf_126 : decode cX5_offOf 126 = .ok (.istore 7, 2) := by decide +kernel
theorem dX5_offOf_128 : decode cX5_offOf 128 = .ok (.iload 6, 2) := by decide +kernel
theorem dX5_offOf_130 : decode cX5_offOf 130 = .ok (.iload 6, 2) := by decide +kernel
theorem dX5_offOf_132 : decode cX5_offOf 132 = .ok (.imul, 1) := by decide +kernel
theorem dX5_offOf_133 : decode cX5_offOf 133 = .ok (.iload 7, 2) := by decide +kernel
theorem dX5_offOf_135 : decode cX5_offOf 135 = .ok (.iload 7, 2) := by decide +kernel
theorem dX5_offOf_137 : decode cX5_offOf 137 = .ok (.imul, 1) := by decide +kernel
theorem dX5_offOf_138 : decode cX5_offOf 138 = .ok (.iadd, 1) := by decide +kernel
theorem dX5_offOf_139 : decode cX5_offOf 139 = .ok (.bipush 16, 2) := by decide +kernel
theorem dX5_offOf_141 : decode cX5_offOf 141 = .ok (.idiv, 1) := by decide +kernel
theorem dX5_offOf_142 : decode cX5_offOf 142 = .ok (.ireturn, 1) := by decide +kernel
theorem dX5_findSpots_0 : decode cX5_findSpots 0 = .ok (.aload_n 0, 1) := by decide +kernel
theorem dX5_findSpots_1 : decode cX5_findSpots 1 = .ok (.iload_n 1, 1) := by decide +kernel
theorem dX5_findSpots_2 : decode cX5_findSpots 2 = .ok (.putfield 147, 3) := by decide +kernel
theorem dX5_findSpots_5 : decode cX5_findSpots 5 = .ok (.iconst 0, 1) := by decide +kernel
theorem dX5_findSpots_6 : decode cX5_findSpots 6 = .ok (.istore_n 2, 1) := by decide +kernel
theorem dX5_findSpots_7 : decode cX5_findSpots 7 = .ok (.iload_n 2, 1) := by decide +kernel
theorem dX5_findSpots_8 : decode cX5_findSpots 8 = .ok (.aload_n 0, 1) := by decide +kernel
theorem dX5_findSpots_9 : decode cX5_findSpots 9 = .ok (.getfield 47, 3) := by decide +kernel
theorem dX5_findSpots_12 : decode cX5_findSpots 12 = .ok (.iload_n 1, 1) := by decide +kernel
theorem dX5_findSpots_13 : decode cX5_findSpots 13 = .ok (.iaload, 1) := by decide +kernel
theorem dX5_findSpots_14 : decode cX5_findSpots 14 = .ok (.if_icmp .ge 191, 3) := by decide +kernel
theorem dX5_findSpots_17 : decode cX5_findSpots 17 = .ok (.aload_n 0, 1) := by decide +kernel
theorem dX5_findSpots_18 : decode cX5_findSpots 18 = .ok (.getfield 44, 3) := by decide +kernel
theorem dX5_findSpots_21 : decode cX5_findSpots 21 = .ok (.bipush 20, 2) := by decide +kernel
theorem dX5_findSpots_23 : decode cX5_findSpots 23 = .ok (.iload_n 1, 1) := by decide +kernel
theorem dX5_findSpots_24 : decode cX5_findSpots 24 = .ok (.imul, 1) := by decide +kernel
theorem dX5_findSpots_25 : decode cX5_findSpots 25 = .ok (.iload_n 2, 1) := by decide +kernel
theorem dX5_findSpots_26 : decode cX5_findSpots 26 = .ok (.iadd, 1) := by decide +kernel
theorem dX5_findSpots_27 : decode cX5_findSpots 27 = .ok (.iaload, 1) := by decide +kernel
theorem dX5_findSpots_28 : decode cX5_findSpots 28 = .ok (.istore_n 3, 1) := by decide +kernel
theorem dX5_findSpots_29 : decode cX5_findSpots 29 = .ok (.aload_n 0, 1) := by decide +kernel
theorem dX5_findSpots_30 : decode cX5_findSpots 30 = .ok (.getfield 75, 3) := by decide +kernel
theorem dX5_findSpots_33 : decode cX5_findSpots 33 = .ok (.iload_n 2, 1) := by decide +kernel
theorem dX5_findSpots_34 : decode cX5_findSpots 34 = .ok (.iconst 0, 1) := by decide +kernel
theorem dX5_findSpots_35 : decode cX5_findSpots 35 = .ok (.iastore, 1) := by decide +kernel
theorem dX5_findSpots_36 : decode cX5_findSpots 36 = .ok (.iconst 0, 1) := by decide +kernel
theorem dX5_findSpots_37 : decode cX5_findSpots 37 = .ok (.istore 4, 2) := by decide +kernel
theorem dX5_findSpots_39 : decode cX5_findSpots 39 = .ok (.iload 4, 2) := by decide +kernel
theorem dX5_findSpots_41 : decode cX5_findSpots 41 = .ok (.iconst 5, 1) := by decide +kernel
theorem dX5_findSpots_42 : decode cX5_findSpots 42 = .ok (.aload_n 0, 1) := by decide +kernel
theorem dX5_findSpots_43 : decode cX5_findSpots 43 = .ok (.getfield 94, 3) := by decide +kernel
theorem dX5_findSpots_46 : decode cX5_findSpots 46 = .ok (.imul, 1) := by decide +kernel
theorem dX5_findSpots_47 : decode cX5_findSpots 47 = .ok (.if_icmp .ge 152, 3) := by decide +kernel
theorem dX5_findSpots_50 : decode cX5_findSpots 50 = .ok (.aload_n 0, 1) := by decide +kernel
theorem dX5_findSpots_51 : decode cX5_findSpots 51 = .ok (.iload_n 1, 1) := by decide +kernel
theorem dX5_findSpots_52 : decode cX5_findSpots 52 = .ok (.iload_n 2, 1) := by decide +kernel
theorem dX5_findSpots_53 : decode cX5_findSpots 53 = .ok (.iload 4, 2) := by decide +kernel
theorem dX5_findSpots_55 : decode cX5_findSpots 55 = .ok (.invokevirtual 150, 3) := by decide +kernel
theorem dX5_findSpots_58 : decode cX5_findSpots 58 = .ok (.istore 5, 2) := by decide +kernel
theorem dX5_findSpots_60 : decode cX5_findSpots 60 = .ok (.aload_n 0, 1) := by decide +kernel
theorem dX5_findSpots_61 : decode cX5_findSpots 61 = .ok (.getfield 25, 3) := by decide +kernel
theorem dX5_findSpots_64 : decode cX5_findSpots 64 = .ok (.iload 4, 2) := by decide +kernel
theorem dX5_findSpots_66 : decode cX5_findSpots 66 = .ok (.iconst 5, 1) := by decide +kernel
theorem dX5_findSpots_67 : decode cX5_findSpots 67 = .ok (.idiv, 1) := by decide +kernel
theorem dX5_findSpots_68 : decode cX5_findSpots 68 = .ok (.iaload, 1) := by decide +kernel
theorem dX5_findSpots_69 : decode cX5_findSpots 69 = .ok (.iconst 2, 1) := by decide +kernel
theorem dX5_findSpots_70 : decode cX5_findSpots 70 = .ok (.if_icmp .eq 123, 3) := by decide +kernel
theorem dX5_findSpots_73 : decode cX5_findSpots 73 = .ok (.iload 5, 2) := by decide +kernel
theorem dX5_findSpots_75 : decode cX5_findSpots 75 = .ok (.iload_n 3, 1) := by decide +kernel
theorem dX5_findSpots_76 : decode cX5_findSpots 76 = .ok (.iload_n 3, 1) := by decide +kernel
theorem dX5_findSpots_77 : decode cX5_findSpots 77 = .ok (.imul, 1) := by decide +kernel
theorem dX5_findSpots_78 : decode cX5_findSpots 78 = .ok (.if_icmp .gt 115, 3) := by decide +kernel
theorem dX5_findSpots_81 : decode cX5_findSpots 81 = .ok (.iconst 0, 1) := by decide +kernel
theorem dX5_findSpots_82 : decode cX5_findSpots 82 = .ok (.istore 6, 2) := by decide +kernel
theorem dX5_findSpots_84 : decode cX5_findSpots 84 = .ok (.iconst 0, 1) := by decide +kernel
theorem dX5_findSpots_85 : decode cX5_findSpots 85 = .ok (.istore 7, 2) := by decide +kernel
theorem dX5_findSpots_87 : decode cX5_findSpots 87 = .ok (.iload 7, 2) := by decide +kernel
theorem dX5_findSpots_89 : decode cX5_findSpots 89 = .ok (.iconst 5, 1) := by decide +kernel
theorem dX5_findSpots_90 : decode cX5_findSpots 90 = .ok (.aload_n 0, 1) := by decide +kernel
theorem dX5_findSpots_91 : decode cX5_findSpots 91 = .ok (.getfield 94, 3) := by decide +kernel
theorem dX5_findSpots_94 : decode cX5_findSpots 94 = .ok (.imul, 1) := by decide +kernel
theorem dX5_findSpots_95 : decode cX5_findSpots 95 = .ok (.if_icmp .ge 63, 3) := by decide +kernel
theorem dX5_findSpots_98 : decode cX5_findSpots 98 = .ok (.aload_n 0, 1) := by decide +kernel
theorem dX5_findSpots_99 : decode cX5_findSpots 99 = .ok (.iload_n 1, 1) := by decide +kernel
theorem dX5_findSpots_100 : decode cX5_findSpots 100 = .ok (.iload_n 2, 1) := by decide +kernel
theorem dX5_findSpots_101 : decode cX5_findSpots 101 = .ok (.iload 7, 2) := by decide +kernel
theorem dX5_findSpots_103 : decode cX5_findSpots 103 = .ok (.invokevirtual 150, 3) := by decide +kernel
theorem dX5_findSpots_106 : decode cX5_findSpots 106 = .ok (.istore 8, 2) := by decide +kernel
theorem dX5_findSpots_108 : decode cX5_findSpots 108 = .ok (.iload 6, 2) := by decide +kernel
theorem dX5_findSpots_110 : decode cX5_findSpots 110 = .ok (.aload_n 0, 1) := by decide +kernel
theorem dX5_findSpots_111 : decode cX5_findSpots 111 = .ok (.getfield 25, 3) := by decide +kernel
theorem dX5_findSpots_114 : decode cX5_findSpots 114 = .ok (.iload 7, 2) := by decide +kernel
theorem dX5_findSpots_116 : decode cX5_findSpots 116 = .ok (.iconst 5, 1) := by decide +kernel
theorem dX5_findSpots_117 : decode cX5_findSpots 117 = .ok (.idiv, 1) := by decide +kernel
theorem dX5_findSpots_118 : decode cX5_findSpots 118 = .ok (.iaload, 1) := by decide +kernel
theorem dX5_findSpots_119 : decode cX5_findSpots 119 = .ok (.iconst 2, 1) := by decide +kernel
theorem dX5_findSpots_120 : decode cX5_findSpots 120 = .ok (.if_icmp .eq 28, 3) := by decide +kernel
theorem dX5_findSpots_123 : decode cX5_findSpots 123 = .ok (.iload 8, 2) := by decide +kernel
theorem dX5_findSpots_125 : decode cX5_findSpots 125 = .ok (.iload 5, 2) := by decide +kernel
theorem dX5_findSpots_127 : decode cX5_findSpots 127 = .ok (.if_icmp .lt 17, 3) := by decide +kernel
theorem dX5_findSpots_130 : decode cX5_findSpots 130 = .ok (.iload 8, 2) := by decide +kernel
theorem dX5_findSpots_132 : decode cX5_findSpots 132 = .ok (.iload 5, 2) := by decide +kernel
theorem dX5_findSpots_134 : decode cX5_findSpots 134 = .ok (.if_icmp .ne 14, 3) := by decide +kernel
theorem dX5_findSpots_137 : decode cX5_findSpots 137 = .ok (.iload 7, 2) := by decide +kernel
theorem dX5_findSpots_139 : decode cX5_findSpots 139 = .ok (.iload 4, 2) := by decide +kernel
theorem dX5_findSpots_141 : decode cX5_findSpots 141 = .ok (.if_icmp .ge 7, 3) := by decide +kernel
theorem dX5_findSpots_144 : decode cX5_findSpots 144 = .ok (.iconst 1, 1) := by decide +kernel
theorem dX5_findSpots_145 : decode cX5_findSpots 145 = .ok (.goto 4, 3) := by decide +kernel
theorem dX5_findSpots_148 : decode cX5_findSpots 148 = .ok (.iconst 0, 1) := by decide +kernel
theorem dX5_findSpots_149 : decode cX5_findSpots 149 = .ok (.iadd, 1) := by decide +kernel
theorem dX5_findSpots_150 : decode cX5_findSpots 150 = .ok (.istore 6, 2) := by decide +kernel
theorem dX5_findSpots_152 : decode cX5_findSpots 152 = .ok (.iinc 7 1, 3) := by decide +kernel
theorem dX5_findSpots_155 : decode cX5_findSpots 155 = .ok (.goto (-68), 3) := by decide +kernel
theorem dX5_findSpots_158 : decode cX5_findSpots 158 = .ok (.iload 6, 2) := by decide +kernel
theorem dX5_findSpots_160 : decode cX5_findSpots 160 = .ok (.bipush 10, 2) := by decide +kernel
theorem dX5_findSpots_162 : decode cX5_findSpots 162 = .ok (.if_icmp .ge 31, 3) := by decide +kernel
theorem dX5_findSpots_165 : decode cX5_findSpots 165 = .ok (.aload_n 0, 1) := by decide +kernel
theorem dX5_findSpots_166 : decode cX5_findSpots 166 = .ok (.getfield 72, 3) := by decide +kernel
theorem dX5_findSpots_169 : decode cX5_findSpots 169 = .ok (.bipush 10, 2) := by decide +kernel
theorem dX5_findSpots_171 : decode cX5_findSpots 171 = .ok (.iload_n 2, 1) := by decide +kernel
theorem dX5_findSpots_172 : decode cX5_findSpots 172 = .ok (.imul, 1) := by decide +kernel
theorem dX5_findSpots_173 : decode cX5_findSpots 173 = .ok (.aload_n 0, 1) := by decide +kernel
theorem dX5_findSpots_174 : decode cX5_findSpots 174 = .ok (.getfield 75, 3) := by decide +kernel
theorem dX5_findSpots_177 : decode cX5_findSpots 177 = .ok (.iload_n 2, 1) := by decide +kernel
theorem dX5_findSpots_178 : decode cX5_findSpots 178 = .ok (.iaload, 1) := by decide +kernel
theorem dX5_findSpots_179 : decode cX5_findSpots 179 = .ok (.iadd, 1) := by decide +kernel
theorem dX5_findSpots_180 : decode cX5_findSpots 180 = .ok (.iload 4, 2) := by decide +kernel
theorem dX5_findSpots_182 : decode cX5_findSpots 182 = .ok (.iastore, 1) := by decide +kernel
theorem dX5_findSpots_183 : decode cX5_findSpots 183 = .ok (.aload_n 0, 1) := by decide +kernel
theorem dX5_findSpots_184 : decode cX5_findSpots 184 = .ok (.getfield 75, 3) := by decide +kernel
theorem dX5_findSpots_187 : decode cX5_findSpots 187 = .ok (.iload_n 2, 1) := by decide +kernel
theorem dX5_findSpots_188 : decode cX5_findSpots 188 = .ok (.dup2, 1) := by decide +kernel
theorem dX5_findSpots_189 : decode cX5_findSpots 189 = .ok (.iaload, 1) := by decide +kernel
theorem dX5_findSpots_190 : decode cX5_findSpots 190 = .ok (.iconst 1, 1) := by decide +kernel
theorem dX5_findSpots_191 : decode cX5_findSpots 191 = .ok (.iadd, 1) := by decide +kernel
theorem dX5_findSpots_192 : decode cX5_findSpots 192 = .ok (.iastore, 1) := by decide +kernel
theorem dX5_findSpots_193 : decode cX5_findSpots 193 = .ok (.iinc 4 1, 3) := by decide +kernel
theorem dX5_findSpots_196 : decode cX5_findSpots 196 = .ok (.goto (-157), 3) := by decide +kernel
theorem dX5_findSpots_199 : decode cX5_findSpots 199 = .ok (.iinc 2 1, 3) := by decide +kernel
theorem dX5_findSpots_202 : decode cX5_findSpots 202 = .ok (.goto (-195), 3) := by decide +kernel
theorem dX5_findSpots_205 : decode cX5_findSpots 205 = .ok (.return_, 1) := by decide +kernel
theorem dX5_spot_0 : decode cX5_spot 0 = .ok (.aload_n 0, 1) := by decide +kernel
theorem dX5_spot_1 : decode cX5_spot 1 = .ok (.iload_n 1, 1) := by decide +kernel
theorem dX5_spot_2 : decode cX5_spot 2 = .ok (.iload_n 2, 1) := by decide +kernel
theorem dX5_spot_3 : decode cX5_spot 3 = .ok (.invokevirtual 154, 3) := by decide +kernel
theorem dX5_spot_6 : decode cX5_spot 6 = .ok (.ifCond .ne 5, 3) := by decide +kernel
theorem dX5_spot_9 : decode cX5_spot 9 = .ok (.iconst (-1), 1) := by decide +kernel
theorem dX5_spot_10 : decode cX5_spot 10 = .ok (.ireturn, 1) := by decide +kernel
theorem dX5_spot_11 : decode cX5_spot 11 = .ok (.aload_n 0, 1) := by decide +kernel
theorem dX5_spot_12 : decode cX5_spot 12 = .ok (.iload_n 1, 1) := by decide +kernel
theorem dX5_spot_13 : decode cX5_spot 13 = .ok (.invokevirtual 158, 3) := by decide +kernel
theorem dX5_spot_16 : decode cX5_spot 16 = .ok (.iload_n 3, 1) := by decide +kernel
theorem dX5_spot_17 : decode cX5_spot 17 = .ok (.iconst (-1), 1) := by decide +kernel
theorem dX5_spot_18 : decode cX5_spot 18 = .ok (.if_icmp .ne 12, 3) := by decide +kernel
theorem dX5_spot_21 : decode cX5_spot 21 = .ok (.aload_n 0, 1) := by decide +kernel
theorem dX5_spot_22 : decode cX5_spot 22 = .ok (.getfield 75, 3) := by decide +kernel
theorem dX5_spot_25 : decode cX5_spot 25 = .ok (.iload_n 2, 1) := by decide +kernel
theorem dX5_spot_26 : decode cX5_spot 26 = .ok (.iaload, 1) := by decide +kernel
theorem dX5_spot_27 : decode cX5_spot 27 = .ok (.goto 32, 3) := by decide +kernel
theorem dX5_spot_30 : decode cX5_spot 30 = .ok (.iload_n 3, 1) := by decide +kernel
theorem dX5_spot_31 : decode cX5_spot 31 = .ok (.ifCond .lt 27, 3) := by decide +kernel
theorem dX5_spot_34 : decode cX5_spot 34 = .ok (.iload_n 3, 1) := by decide +kernel
theorem dX5_spot_35 : decode cX5_spot 35 = .ok (.aload_n 0, 1) := by decide +kernel
theorem dX5_spot_36 : decode cX5_spot 36 = .ok (.getfield 75, 3) := by decide +kernel
theorem dX5_spot_39 : decode cX5_spot 39 = .ok (.iload_n 2, 1) := by decide +kernel
theorem dX5_spot_40 : decode cX5_spot 40 = .ok (.iaload, 1) := by decide +kernel
theorem dX5_spot_41 : decode cX5_spot 41 = .ok (.if_icmp .ge 17, 3) := by decide +kernel
theorem dX5_spot_44 : decode cX5_spot 44 = .ok (.aload_n 0, 1) := by decide +kernel
theorem dX5_spot_45 : decode cX5_spot 45 = .ok (.getfield 72, 3) := by decide +kernel
theorem dX5_spot_48 : decode cX5_spot 48 = .ok (.bipush 10, 2) := by decide +kernel
theorem dX5_spot_50 : decode cX5_spot 50 = .ok (.iload_n 2, 1) := by decide +kernel
theorem dX5_spot_51 : decode cX5_spot 51 = .ok (.imul, 1) := by decide +kernel
theorem dX5_spot_52 : decode cX5_spot 52 = .ok (.iload_n 3, 1) := by decide +kernel
theorem dX5_spot_53 : decode cX5_spot 53 = .ok (.iadd, 1) := by decide +kernel
theorem dX5_spot_54 : decode cX5_spot 54 = .ok (.iaload, 1) := by decide +kernel
theorem dX5_spot_55 : decode cX5_spot 55 = .ok (.goto 4, 3) := by decide +kernel
theorem dX5_spot_58 : decode cX5_spot 58 = .ok (.iconst (-1), 1) := by decide +kernel
theorem dX5_spot_59 : decode cX5_spot 59 = .ok (.ireturn, 1) := by decide +kernel
theorem dX5_off_0 : decode cX5_off 0 = .ok (.aload_n 0, 1) := by decide +kernel
theorem dX5_off_1 : decode cX5_off 1 = .ok (.iload_n 1, 1) := by decide +kernel
theorem dX5_off_2 : decode cX5_off 2 = .ok (.iload_n 2, 1) := by decide +kernel
theorem dX5_off_3 : decode cX5_off 3 = .ok (.invokevirtual 154, 3) := by decide +kernel
theorem dX5_off_6 : decode cX5_off 6 = .ok (.ifCond .eq 21, 3) := by decide +kernel
theorem dX5_off_9 : decode cX5_off 9 = .ok (.aload_n 0, 1) := by decide +kernel
theorem dX5_off_10 : decode cX5_off 10 = .ok (.iload_n 3, 1) := by decide +kernel
theorem dX5_off_11 : decode cX5_off 11 = .ok (.invokevirtual 135, 3) := by decide +kernel
theorem dX5_off_14 : decode cX5_off 14 = .ok (.ifCond .eq 13, 3) := by decide +kernel
theorem dX5_off_17 : decode cX5_off 17 = .ok (.aload_n 0, 1) := by decide +kernel
theorem dX5_off_18 : decode cX5_off 18 = .ok (.iload_n 1, 1) := by decide +kernel
theorem dX5_off_19 : decode cX5_off 19 = .ok (.iload_n 2, 1) := by decide +kernel
theorem dX5_off_20 : decode cX5_off 20 = .ok (.iload_n 3, 1) := by decide +kernel
theorem dX5_off_21 : decode cX5_off 21 = .ok (.invokevirtual 150, 3) := by decide +kernel
theorem dX5_off_24 : decode cX5_off 24 = .ok (.goto 4, 3) := by decide +kernel
theorem dX5_off_27 : decode cX5_off 27 = .ok (.iconst (-1), 1) := by decide +kernel
theorem dX5_off_28 : decode cX5_off 28 = .ok (.ireturn, 1) := by decide +kernel
theorem dX5_step_0 : decode cX5_step 0 = .ok (.aload_n 0, 1) := by decide +kernel
theorem dX5_step_1 : decode cX5_step 1 = .ok (.getfield 60, 3) := by decide +kernel
theorem dX5_step_4 : decode cX5_step 4 = .ok (.sipush 150, 3) := by decide +kernel
theorem dX5_step_7 : decode cX5_step 7 = .ok (.iload_n 2, 1) := by decide +kernel
theorem dX5_step_8 : decode cX5_step 8 = .ok (.imul, 1) := by decide +kernel
theorem dX5_step_9 : decode cX5_step 9 = .ok (.iload 4, 2) := by decide +kernel
theorem dX5_step_11 : decode cX5_step 11 = .ok (.iadd, 1) := by decide +kernel
theorem dX5_step_12 : decode cX5_step 12 = .ok (.iaload, 1) := by decide +kernel
theorem dX5_step_13 : decode cX5_step 13 = .ok (.istore 5, 2) := by decide +kernel
theorem dX5_step_15 : decode cX5_step 15 = .ok (.aload_n 0, 1) := by decide +kernel
theorem dX5_step_16 : decode cX5_step 16 = .ok (.getfield 41, 3) := by decide +kernel
theorem dX5_step_19 : decode cX5_step 19 = .ok (.bipush 20, 2) := by decide +kernel
theorem dX5_step_21 : decode cX5_step 21 = .ok (.aload_n 0, 1) := by decide +kernel
theorem dX5_step_22 : decode cX5_step 22 = .ok (.getfield 147, 3) := by decide +kernel
theorem dX5_step_25 : decode cX5_step 25 = .ok (.imul, 1) := by decide +kernel
theorem dX5_step_26 : decode cX5_step 26 = .ok (.iload_n 3, 1) := by decide +kernel
theorem dX5_step_27 : decode cX5_step 27 = .ok (.iadd, 1) := by decide +kernel
theorem dX5_step_28 : decode cX5_step 28 = .ok (.iaload, 1) := by decide +kernel
theorem dX5_step_29 : decode cX5_step 29 = .ok (.aload_n 0, 1) := by decide +kernel
theorem dX5_step_30 : decode cX5_step 30 = .ok (.getfield 41, 3) := by decide +kernel
theorem dX5_step_33 : decode cX5_step 33 = .ok (.bipush 20, 2) := by decide +kernel
theorem dX5_step_35 : decode cX5_step 35 = .ok (.aload_n 0, 1) := by decide +kernel
theorem dX5_step_36 : decode cX5_step 36 = .ok (.getfield 147, 3) := by decide +kernel
theorem dX5_step_39 : decode cX5_step 39 = .ok (.imul, 1) := by decide +kernel
theorem dX5_step_40 : decode cX5_step 40 = .ok (.iload_n 1, 1) := by decide +kernel
theorem dX5_step_41 : decode cX5_step 41 = .ok (.iadd, 1) := by decide +kernel
theorem dX5_step_42 : decode cX5_step 42 = .ok (.iaload, 1) := by decide +kernel
theorem dX5_step_43 : decode cX5_step 43 = .ok (.isub, 1) := by decide +kernel
theorem dX5_step_44 : decode cX5_step 44 = .ok (.istore 6, 2) := by decide +kernel
theorem dX5_step_46 : decode cX5_step 46 = .ok (.iload 5, 2) := by decide +kernel
theorem dX5_step_48 : decode cX5_step 48 = .ok (.iconst 4, 1) := by decide +kernel
theorem dX5_step_49 : decode cX5_step 49 = .ok (.aload_n 0, 1) := by decide +kernel
theorem dX5_step_50 : decode cX5_step 50 = .ok (.getfield 50, 3) := by decide +kernel
theorem dX5_step_53 : decode cX5_step 53 = .ok (.imul, 1) := by decide +kernel
theorem dX5_step_54 : decode cX5_step 54 = .ok (.iload 6, 2) := by decide +kernel
theorem dX5_step_56 : decode cX5_step 56 = .ok (.imul, 1) := by decide +kernel
theorem dX5_step_57 : decode cX5_step 57 = .ok (.if_icmp .gt 10, 3) := by decide +kernel
theorem dX5_step_60 : decode cX5_step 60 = .ok (.iload 5, 2) := by decide +kernel
theorem dX5_step_62 : decode cX5_step 62 = .ok (.iconst 4, 1) := by decide +kernel
theorem dX5_step_63 : decode cX5_step 63 = .ok (.idiv, 1) := by decide +kernel
theorem dX5_step_64 : decode cX5_step 64 = .ok (.goto 5, 3) := by decide +kernel
theorem dX5_step_67 : decode cX5_step 67 = .ok (.ldc 108, 2) := by decide +kernel
theorem dX5_step_69 : decode cX5_step 69 = .ok (.ireturn, 1) := by decide +kernel
theorem dX5_behind_0 : decode cX5_behind 0 = .ok (.aload_n 0, 1) := by decide +kernel
theorem dX5_behind_1 : decode cX5_behind 1 = .ok (.getfield 47, 3) := by decide +kernel
theorem dX5_behind_4 : decode cX5_behind 4 = .ok (.aload_n 0, 1) := by decide +kernel
theorem dX5_behind_5 : decode cX5_behind 5 = .ok (.getfield 147, 3) := by decide +kernel
theorem dX5_behind_8 : decode cX5_behind 8 = .ok (.iaload, 1) := by decide +kernel
theorem dX5_behind_9 : decode cX5_behind 9 = .ok (.istore 6, 2) := by decide +kernel
theorem dX5_behind_11 : decode cX5_behind 11 = .ok (.iload 4, 2) := by decide +kernel
theorem dX5_behind_13 : decode cX5_behind 13 = .ok (.ifCond .lt 15, 3) := by decide +kernel
theorem dX5_behind_16 : decode cX5_behind 16 = .ok (.iload_n 2, 1) := by decide +kernel
theorem dX5_behind_17 : decode cX5_behind 17 = .ok (.iload 4, 2) := by decide +kernel
theorem dX5_behind_19 : decode cX5_behind 19 = .ok (.if_icmp .ne 13, 3) := by decide +kernel
theorem dX5_behind_22 : decode cX5_behind 22 = .ok (.iload_n 3, 1) := by decide +kernel
theorem dX5_behind_23 : decode cX5_behind 23 = .ok (.iload 5, 2) := by decide +kernel
theorem dX5_behind_25 : decode cX5_behind 25 = .ok (.if_icmp .ne 7, 3) := by decide +kernel
theorem dX5_behind_28 : decode cX5_behind 28 = .ok (.iconst 1, 1) := by decide +kernel
theorem dX5_behind_29 : decode cX5_behind 29 = .ok (.goto 4, 3) := by decide +kernel
theorem dX5_behind_32 : decode cX5_behind 32 = .ok (.iconst 0, 1) := by decide +kernel
theorem dX5_behind_33 : decode cX5_behind 33 = .ok (.istore 7, 2) := by decide +kernel
theorem dX5_behind_35 : decode cX5_behind 35 = .ok (.iload 7, 2) := by decide +kernel
theorem dX5_behind_37 : decode cX5_behind 37 = .ok (.ifCond .eq 15, 3) := by decide +kernel
theorem dX5_behind_40 : decode cX5_behind 40 = .ok (.aload_n 0, 1) := by decide +kernel
theorem dX5_behind_41 : decode cX5_behind 41 = .ok (.getfield 54, 3) := by decide +kernel
theorem dX5_behind_44 : decode cX5_behind 44 = .ok (.iload 6, 2) := by decide +kernel
theorem dX5_behind_46 : decode cX5_behind 46 = .ok (.iload_n 1, 1) := by decide +kernel
theorem dX5_behind_47 : decode cX5_behind 47 = .ok (.isub, 1) := by decide +kernel
theorem dX5_behind_48 : decode cX5_behind 48 = .ok (.imul, 1) := by decide +kernel
theorem dX5_behind_49 : decode cX5_behind 49 = .ok (.goto 5, 3) := by decide +kernel
theorem dX5_behind_52 : decode cX5_behind 52 = .ok (.ldc 108, 2) := by decide +kernel
theorem dX5_behind_54 : decode cX5_behind 54 = .ok (.istore 8, 2) := by decide +kernel
theorem dX5_behind_56 : decode cX5_behind 56 = .ok (.iload_n 1, 1) := by decide +kernel
theorem dX5_behind_57 : decode cX5_behind 57 = .ok (.istore 9, 2) := by decide +kernel
theorem dX5_behind_59 : decode cX5_behind 59 = .ok (.iload 9, 2) := by decide +kernel
theorem dX5_behind_61 : decode cX5_behind 61 = .ok (.iload 6, 2) := by decide +kernel
theorem dX5_behind_63 : decode cX5_behind 63 = .ok (.if_icmp .ge 123, 3) := by decide +kernel
theorem dX5_behind_66 : decode cX5_behind 66 = .ok (.iconst 0, 1) := by decide +kernel
theorem dX5_behind_67 : decode cX5_behind 67 = .ok (.istore 10, 2) := by decide +kernel
theorem dX5_behind_69 : decode cX5_behind 69 = .ok (.iload 10, 2) := by decide +kernel
theorem dX5_behind_71 : decode cX5_behind 71 = .ok (.aload_n 0, 1) := by decide +kernel
theorem dX5_behind_72 : decode cX5_behind 72 = .ok (.getfield 75, 3) := by decide +kernel
theorem dX5_behind_75 : decode cX5_behind 75 = .ok (.iload 9, 2) := by decide +kernel
theorem dX5_behind_77 : decode cX5_behind 77 = .ok (.iaload, 1) := by decide +kernel
theorem dX5_behind_78 : decode cX5_behind 78 = .ok (.if_icmp .ge 102, 3) := by decide +kernel
theorem dX5_behind_81 : decode cX5_behind 81 = .ok (.aload_n 0, 1) := by decide +kernel
theorem dX5_behind_82 : decode cX5_behind 82 = .ok (.getfield 78, 3) := by decide +kernel
theorem dX5_behind_85 : decode cX5_behind 85 = .ok (.bipush 10, 2) := by decide +kernel
theorem dX5_behind_87 : decode cX5_behind 87 = .ok (.iload 9, 2) := by decide +kernel
theorem dX5_behind_89 : decode cX5_behind 89 = .ok (.imul, 1) := by decide +kernel
theorem dX5_behind_90 : decode cX5_behind 90 = .ok (.iload 10, 2) := by decide +kernel
theorem dX5_behind_92 : decode cX5_behind 92 = .ok (.iadd, 1) := by decide +kernel
theorem dX5_behind_93 : decode cX5_behind 93 = .ok (.iaload, 1) := by decide +kernel
theorem dX5_behind_94 : decode cX5_behind 94 = .ok (.istore 11, 2) := by decide +kernel
theorem dX5_behind_96 : decode cX5_behind 96 = .ok (.iload_n 2, 1) := by decide +kernel
theorem dX5_behind_97 : decode cX5_behind 97 = .ok (.ifCond .ge 7, 3) := by decide +kernel
theorem dX5_behind_100 : decode cX5_behind 100 = .ok (.iconst 0, 1) := by decide +kernel
theorem dX5_behind_101 : decode cX5_behind 101 = .ok (.goto 24, 3) := by decide +kernel
theorem dX5_behind_104 : decode cX5_behind 104 = .ok (.aload_n 0, 1) := by decide +kernel
theorem dX5_behind_105 : decode cX5_behind 105 = .ok (.iload_n 2, 1) := by decide +kernel
theorem dX5_behind_106 : decode cX5_behind 106 = .ok (.iload_n 3, 1) := by decide +kernel
theorem dX5_behind_107 : decode cX5_behind 107 = .ok (.iload 9, 2) := by decide +kernel
theorem dX5_behind_109 : decode cX5_behind 109 = .ok (.aload_n 0, 1) := by decide +kernel
theorem dX5_behind_110 : decode cX5_behind 110 = .ok (.getfield 72, 3) := by decide +kernel
theorem dX5_behind_113 : decode cX5_behind 113 = .ok (.bipush 10, 2) := by decide +kernel
theorem dX5_behind_115 : decode cX5_behind 115 = .ok (.iload 9, 2) := by decide +kernel
theorem dX5_behind_117 : decode cX5_behind 117 = .ok (.imul, 1) := by decide +kernel
theorem dX5_behind_118 : decode cX5_behind 118 = .ok (.iload 10, 2) := by decide +kernel
theorem dX5_behind_120 : decode cX5_behind 120 = .ok (.iadd, 1) := by decide +kernel
theorem dX5_behind_121 : decode cX5_behind 121 = .ok (.iaload, 1) := by decide +kernel
theorem dX5_behind_122 : decode cX5_behind 122 = .ok (.invokevirtual 161, 3) := by decide +kernel
theorem dX5_behind_125 : decode cX5_behind 125 = .ok (.istore 12, 2) := by decide +kernel
theorem dX5_behind_127 : decode cX5_behind 127 = .ok (.iload 11, 2) := by decide +kernel
theorem dX5_behind_129 : decode cX5_behind 129 = .ok (.ldc 108, 2) := by decide +kernel
theorem dX5_behind_131 : decode cX5_behind 131 = .ok (.if_icmp .ge 43, 3) := by decide +kernel
theorem dX5_behind_134 : decode cX5_behind 134 = .ok (.iload 12, 2) := by decide +kernel
theorem dX5_behind_136 : decode cX5_behind 136 = .ok (.ldc 108, 2) := by decide +kernel
theorem dX5_behind_138 : decode cX5_behind 138 = .ok (.if_icmp .ge 36, 3) := by decide +kernel
theorem dX5_behind_141 : decode cX5_behind 141 = .ok (.aload_n 0, 1) := by decide +kernel
theorem dX5_behind_142 : decode cX5_behind 142 = .ok (.getfield 54, 3) := by decide +kernel
theorem dX5_behind_145 : decode cX5_behind 145 = .ok (.iload 9, 2) := by decide +kernel
theorem dX5_behind_147 : decode cX5_behind 147 = .ok (.iload_n 1, 1) := by decide +kernel
theorem dX5_behind_148 : decode cX5_behind 148 = .ok (.isub, 1) := by decide +kernel
theorem dX5_behind_149 : decode cX5_behind 149 = .ok (.imul, 1) := by decide +kernel
theorem dX5_behind_150 : decode cX5_behind 150 = .ok (.iload 12, 2) := by decide +kernel
theorem dX5_behind_152 : decode cX5_behind 152 = .ok (.iadd, 1) := by decide +kernel
theorem dX5_behind_153 : decode cX5_behind 153 = .ok (.iload 11, 2) := by decide +kernel
theorem dX5_behind_155 : decode cX5_behind 155 = .ok (.iadd, 1) := by decide +kernel
theorem dX5_behind_156 : decode cX5_behind 156 = .ok (.istore 13, 2) := by decide +kernel
theorem dX5_behind_158 : decode cX5_behind 158 = .ok (.iload 13, 2) := by decide +kernel
theorem dX5_behind_160 : decode cX5_behind 160 = .ok (.iload 8, 2) := by decide +kernel
theorem dX5_behind_162 : decode cX5_behind 162 = .ok (.if_icmp .ge 8, 3) := by decide +kernel
theorem dX5_behind_165 : decode cX5_behind 165 = .ok (.iload 13, 2) := by decide +kernel
theorem dX5_behind_167 : decode cX5_behind 167 = .ok (.goto 5, 3) := by decide +kernel
theorem dX5_behind_170 : decode cX5_behind 170 = .ok (.iload 8, 2) := by decide +kernel
theorem dX5_behind_172 : decode cX5_behind 172 = .ok (.istore 8, 2) := by decide +kernel
theorem dX5_behind_174 : decode cX5_behind 174 = .ok (.iinc 10 1, 3) := by decide +kernel
theorem dX5_behind_177 : decode cX5_behind 177 = .ok (.goto (-108), 3) := by decide +kernel
theorem dX5_behind_180 : decode cX5_behind 180 = .ok (.iinc 9 1, 3) := by decide +kernel
theorem dX5_behind_183 : decode cX5_behind 183 = .ok (.goto (-124), 3) := by decide +kernel
theorem dX5_behind_186 : decode cX5_behind 186 = .ok (.iload 8, 2) := by decide +kernel
theorem dX5_behind_188 : decode cX5_behind 188 = .ok (.ireturn, 1) := by decide +kernel
theorem dX5_findRow_0 : decode cX5_findRow 0 = .ok (.aload_n 0, 1) := by decide +kernel
theorem dX5_findRow_1 : decode cX5_findRow 1 = .ok (.getfield 47, 3) := by decide +kernel
theorem dX5_findRow_4 : decode cX5_findRow 4 = .ok (.aload_n 0, 1) := by decide +kernel
theorem dX5_findRow_5 : decode cX5_findRow 5 = .ok (.getfield 147, 3) := by decide +kernel
theorem dX5_findRow_8 : decode cX5_findRow 8 = .ok (.iaload, 1) := by decide +kernel
theorem dX5_findRow_9 : decode cX5_findRow 9 = .ok (.istore_n 3, 1) := by decide +kernel
theorem dX5_findRow_10 : decode cX5_findRow 10 = .ok (.iload_n 3, 1) := by decide +kernel
theorem dX5_findRow_11 : decode cX5_findRow 11 = .ok (.iconst 1, 1) := by decide +kernel
theorem dX5_findRow_12 : decode cX5_findRow 12 = .ok (.isub, 1) := by decide +kernel
theorem dX5_findRow_13 : decode cX5_findRow 13 = .ok (.istore 4, 2) := by decide +kernel
theorem dX5_findRow_15 : decode cX5_findRow 15 = .ok (.iload 4, 2) := by decide +kernel
theorem dX5_findRow_17 : decode cX5_findRow 17 = .ok (.ifCond .lt 140, 3) := by decide +kernel
theorem dX5_findRow_20 : decode cX5_findRow 20 = .ok (.iconst 0, 1) := by decide +kernel
theorem dX5_findRow_21 : decode cX5_findRow 21 = .ok (.istore 5, 2) := by decide +kernel
theorem dX5_findRow_23 : decode cX5_findRow 23 = .ok (.iload 5, 2) := by decide +kernel
theorem dX5_findRow_25 : decode cX5_findRow 25 = .ok (.aload_n 0, 1) := by decide +kernel
theorem dX5_findRow_26 : decode cX5_findRow 26 = .ok (.getfield 75, 3) := by decide +kernel
theorem dX5_findRow_29 : decode cX5_findRow 29 = .ok (.iload 4, 2) := by decide +kernel
theorem dX5_findRow_31 : decode cX5_findRow 31 = .ok (.iaload, 1) := by decide +kernel
theorem dX5_findRow_32 : decode cX5_findRow 32 = .ok (.if_icmp .ge 119, 3) := by decide +kernel
theorem dX5_findRow_35 : decode cX5_findRow 35 = .ok (.aload_n 0, 1) := by decide +kernel
theorem dX5_findRow_36 : decode cX5_findRow 36 = .ok (.getfield 72, 3) := by decide +kernel
theorem dX5_findRow_39 : decode cX5_findRow 39 = .ok (.bipush 10, 2) := by decide +kernel
theorem dX5_findRow_41 : decode cX5_findRow 41 = .ok (.iload 4, 2) := by decide +kernel
theorem dX5_findRow_43 : decode cX5_findRow 43 = .ok (.imul, 1) := by decide +kernel
theorem dX5_findRow_44 : decode cX5_findRow 44 = .ok (.iload 5, 2) := by decide +kernel
theorem dX5_findRow_46 : decode cX5_findRow 46 = .ok (.iadd, 1) := by decide +kernel
theorem dX5_findRow_47 : decode cX5_findRow 47 = .ok (.iaload, 1) := by decide +kernel
theorem dX5_findRow_48 : decode cX5_findRow 48 = .ok (.istore 6, 2) := by decide +kernel
theorem dX5_findRow_50 : decode cX5_findRow 50 = .ok (.iload_n 1, 1) := by decide +kernel
theorem dX5_findRow_51 : decode cX5_findRow 51 = .ok (.ifCond .lt 21, 3) := by decide +kernel
theorem dX5_findRow_54 : decode cX5_findRow 54 = .ok (.iload 4, 2) := by decide +kernel
theorem dX5_findRow_56 : decode cX5_findRow 56 = .ok (.iload_n 1, 1) := by decide +kernel
theorem dX5_findRow_57 : decode cX5_findRow 57 = .ok (.if_icmp .lt 15, 3) := by decide +kernel
theorem dX5_findRow_60 : decode cX5_findRow 60 = .ok (.iload 4, 2) := by decide +kernel
theorem dX5_findRow_62 : decode cX5_findRow 62 = .ok (.iload_n 1, 1) := by decide +kernel
theorem dX5_findRow_63 : decode cX5_findRow 63 = .ok (.if_icmp .ne 13, 3) := by decide +kernel
theorem dX5_findRow_66 : decode cX5_findRow 66 = .ok (.iload 6, 2) := by decide +kernel
theorem dX5_findRow_68 : decode cX5_findRow 68 = .ok (.iload_n 2, 1) := by decide +kernel
theorem dX5_findRow_69 : decode cX5_findRow 69 = .ok (.if_icmp .ne 7, 3) := by decide +kernel
theorem dX5_findRow_72 : decode cX5_findRow 72 = .ok (.iconst 1, 1) := by decide +kernel
theorem dX5_findRow_73 : decode cX5_findRow 73 = .ok (.goto 4, 3) := by decide +kernel
theorem dX5_findRow_76 : decode cX5_findRow 76 = .ok (.iconst 0, 1) := by decide +kernel
theorem dX5_findRow_77 : decode cX5_findRow 77 = .ok (.istore 7, 2) := by decide +kernel
theorem dX5_findRow_79 : decode cX5_findRow 79 = .ok (.iload 7, 2) := by decide +kernel
theorem dX5_findRow_81 : decode cX5_findRow 81 = .ok (.ifCond .eq 20, 3) := by decide +kernel
theorem dX5_findRow_84 : decode cX5_findRow 84 = .ok (.aload_n 0, 1) := by decide +kernel
theorem dX5_findRow_85 : decode cX5_findRow 85 = .ok (.iload 4, 2) := by decide +kernel
theorem dX5_findRow_87 : decode cX5_findRow 87 = .ok (.iconst 1, 1) := by decide +kernel
theorem dX5_findRow_88 : decode cX5_findRow 88 = .ok (.iadd, 1) := by decide +kernel
theorem dX5_findRow_89 : decode cX5_findRow 89 = .ok (.iload 4, 2) := by decide +kernel
theorem dX5_findRow_91 : decode cX5_findRow 91 = .ok (.iload 6, 2) := by decide +kernel
theorem dX5_findRow_93 : decode cX5_findRow 93 = .ok (.iload_n 1, 1) := by decide +kernel
theorem dX5_findRow_94 : decode cX5_findRow 94 = .ok (.iload_n 2, 1) := by decide +kernel
theorem dX5_findRow_95 : decode cX5_findRow 95 = .ok (.invokevirtual 165, 3) := by decide +kernel
theorem dX5_findRow_98 : decode cX5_findRow 98 = .ok (.goto 5, 3) := by decide +kernel
theorem dX5_findRow_101 : decode cX5_findRow 101 = .ok (.ldc 108, 2) := by decide +kernel
theorem dX5_findRow_103 : decode cX5_findRow 103 = .ok (.istore 8, 2) := by decide +kernel
theorem dX5_findRow_105 : decode cX5_findRow 105 = .ok (.aload_n 0, 1) := by decide +kernel
theorem dX5_findRow_106 : decode cX5_findRow 106 = .ok (.getfield 78, 3) := by decide +kernel
theorem dX5_findRow_109 : decode cX5_findRow 109 = .ok (.bipush 10, 2) := by decide +kernel
theorem dX5_findRow_111 : decode cX5_findRow 111 = .ok (.iload 4, 2) := by decide +kernel
theorem dX5_findRow_113 : decode cX5_findRow 113 = .ok (.imul, 1) := by decide +kernel
theorem dX5_findRow_114 : decode cX5_findRow 114 = .ok (.iload 5, 2) := by decide +kernel
theorem dX5_findRow_116 : decode cX5_findRow 116 = .ok (.iadd, 1) := by decide +kernel
theorem dX5_findRow_117 : decode cX5_findRow 117 = .ok (.iload 8, 2) := by decide +kernel
theorem dX5_findRow_119 : decode cX5_findRow 119 = .ok (.ldc 108, 2) := by decide +kernel
theorem dX5_findRow_121 : decode cX5_findRow 121 = .ok (.if_icmp .ge 21, 3) := by decide +kernel
theorem dX5_findRow_124 : decode cX5_findRow 124 = .ok (.aload_n 0, 1) := by decide +kernel
theorem dX5_findRow_125 : decode cX5_findRow 125 = .ok (.aload_n 0, 1) := by decide +kernel
theorem dX5_findRow_126 : decode cX5_findRow 126 = .ok (.getfield 147, 3) := by decide +kernel
theorem dX5_findRow_129 : decode cX5_findRow 129 = .ok (.iload 4, 2) := by decide +kernel
theorem dX5_findRow_131 : decode cX5_findRow 131 = .ok (.iload 6, 2) := by decide +kernel
theorem dX5_findRow_133 : decode cX5_findRow 133 = .ok (.invokevirtual 150, 3) := by decide +kernel
theorem dX5_findRow_136 : decode cX5_findRow 136 = .ok (.iload 8, 2) := by decide +kernel
theorem dX5_findRow_138 : decode cX5_findRow 138 = .ok (.iadd, 1) := by decide +kernel
theorem dX5_findRow_139 : decode cX5_findRow 139 = .ok (.goto 5, 3) := by decide +kernel
theorem dX5_findRow_142 : decode cX5_findRow 142 = .ok (.ldc 108, 2) := by decide +kernel
theorem dX5_findRow_144 : decode cX5_findRow 144 = .ok (.iastore, 1) := by decide +kernel
theorem dX5_findRow_145 : decode cX5_findRow 145 = .ok (.iinc 5 1, 3) := by decide +kernel
theorem dX5_findRow_148 : decode cX5_findRow 148 = .ok (.goto (-125), 3) := by decide +kernel
theorem dX5_findRow_151 : decode cX5_findRow 151 = .ok (.iinc 4 (-1), 3) := by decide +kernel
theorem dX5_findRow_154 : decode cX5_findRow 154 = .ok (.goto (-139), 3) := by decide +kernel
theorem dX5_findRow_157 : decode cX5_findRow 157 = .ok (.aload_n 0, 1) := by decide +kernel
theorem dX5_findRow_158 : decode cX5_findRow 158 = .ok (.aload_n 0, 1) := by decide +kernel
theorem dX5_findRow_159 : decode cX5_findRow 159 = .ok (.iconst 0, 1) := by decide +kernel
theorem dX5_findRow_160 : decode cX5_findRow 160 = .ok (.iconst (-1), 1) := by decide +kernel
theorem dX5_findRow_161 : decode cX5_findRow 161 = .ok (.iconst (-1), 1) := by decide +kernel
theorem dX5_findRow_162 : decode cX5_findRow 162 = .ok (.iload_n 1, 1) := by decide +kernel
theorem dX5_findRow_163 : decode cX5_findRow 163 = .ok (.iload_n 2, 1) := by decide +kernel
theorem dX5_findRow_164 : decode cX5_findRow 164 = .ok (.invokevirtual 165, 3) := by decide +kernel
theorem dX5_findRow_167 : decode cX5_findRow 167 = .ok (.putfield 169, 3) := by decide +kernel
theorem dX5_findRow_170 : decode cX5_findRow 170 = .ok (.iconst (-1), 1) := by decide +kernel
theorem dX5_findRow_171 : decode cX5_findRow 171 = .ok (.istore 4, 2) := by decide +kernel
theorem dX5_findRow_173 : decode cX5_findRow 173 = .ok (.iconst (-1), 1) := by decide +kernel
theorem dX5_findRow_174 : decode cX5_findRow 174 = .ok (.istore 5, 2) := by decide +kernel
theorem dX5_findRow_176 : decode cX5_findRow 176 = .ok (.aload_n 0, 1) := by decide +kernel
theorem dX5_findRow_177 : decode cX5_findRow 177 = .ok (.getfield 169, 3) := by decide +kernel
theorem dX5_findRow_180 : decode cX5_findRow 180 = .ok (.istore 6, 2) := by decide +kernel
theorem dX5_findRow_182 : decode cX5_findRow 182 = .ok (.iconst 0, 1) := by decide +kernel
theorem dX5_findRow_183 : decode cX5_findRow 183 = .ok (.istore 7, 2) := by decide +kernel
theorem dX5_findRow_185 : decode cX5_findRow 185 = .ok (.iload 7, 2) := by decide +kernel
theorem dX5_findRow_187 : decode cX5_findRow 187 = .ok (.iload_n 3, 1) := by decide +kernel
theorem dX5_findRow_188 : decode cX5_findRow 188 = .ok (.if_icmp .ge 209, 3) := by decide +kernel
theorem dX5_findRow_191 : decode cX5_findRow 191 = .ok (.aload_n 0, 1) := by decide +kernel
theorem dX5_findRow_192 : decode cX5_findRow 192 = .ok (.getfield 81, 3) := by decide +kernel
theorem dX5_findRow_195 : decode cX5_findRow 195 = .ok (.iload 7, 2) := by decide +kernel
theorem dX5_findRow_197 : decode cX5_findRow 197 = .ok (.bipush (-5), 2) := by decide +kernel
theorem dX5_findRow_199 : decode cX5_findRow 199 = .ok (.iastore, 1) := by decide +kernel
theorem dX5_findRow_200 : decode cX5_findRow 200 = .ok (.iconst 0, 1) := by decide +kernel
theorem dX5_findRow_201 : decode cX5_findRow 201 = .ok (.istore 8, 2) := by decide +kernel
theorem dX5_findRow_203 : decode cX5_findRow 203 = .ok (.iload 8, 2) := by decide +kernel
theorem dX5_findRow_205 : decode cX5_findRow 205 = .ok (.aload_n 0, 1) := by decide +kernel
theorem dX5_findRow_206 : decode cX5_findRow 206 = .ok (.getfield 75, 3) := by decide +kernel
theorem dX5_findRow_209 : decode cX5_findRow 209 = .ok (.iload 7, 2) := by decide +kernel
theorem dX5_findRow_211 : decode cX5_findRow 211 = .ok (.iaload, 1) := by decide +kernel
theorem dX5_findRow_212 : decode cX5_findRow 212 = .ok (.if_icmp .ge 142, 3) := by decide +kernel
theorem dX5_findRow_215 : decode cX5_findRow 215 = .ok (.aload_n 0, 1) := by decide +kernel
theorem dX5_findRow_216 : decode cX5_findRow 216 = .ok (.getfield 81, 3) := by decide +kernel
theorem dX5_findRow_219 : decode cX5_findRow 219 = .ok (.iload 7, 2) := by decide +kernel
theorem dX5_findRow_221 : decode cX5_findRow 221 = .ok (.iaload, 1) := by decide +kernel
theorem dX5_findRow_222 : decode cX5_findRow 222 = .ok (.bipush (-5), 2) := by decide +kernel
theorem dX5_findRow_224 : decode cX5_findRow 224 = .ok (.if_icmp .ne 130, 3) := by decide +kernel
theorem dX5_findRow_227 : decode cX5_findRow 227 = .ok (.aload_n 0, 1) := by decide +kernel
theorem dX5_findRow_228 : decode cX5_findRow 228 = .ok (.getfield 72, 3) := by decide +kernel
theorem dX5_findRow_231 : decode cX5_findRow 231 = .ok (.bipush 10, 2) := by decide +kernel
theorem dX5_findRow_233 : decode cX5_findRow 233 = .ok (.iload 7, 2) := by decide +kernel
theorem dX5_findRow_235 : decode cX5_findRow 235 = .ok (.imul, 1) := by decide +kernel
theorem dX5_findRow_236 : decode cX5_findRow 236 = .ok (.iload 8, 2) := by decide +kernel
theorem dX5_findRow_238 : decode cX5_findRow 238 = .ok (.iadd, 1) := by decide +kernel
theorem dX5_findRow_239 : decode cX5_findRow 239 = .ok (.iaload, 1) := by decide +kernel
theorem dX5_findRow_240 : decode cX5_findRow 240 = .ok (.istore 9, 2) := by decide +kernel
theorem dX5_findRow_242 : decode cX5_findRow 242 = .ok (.iload 4, 2) := by decide +kernel
theorem dX5_findRow_244 : decode cX5_findRow 244 = .ok (.ifCond .ge 7, 3) := by decide +kernel
theorem dX5_findRow_247 : decode cX5_findRow 247 = .ok (.iconst 0, 1) := by decide +kernel
theorem dX5_findRow_248 : decode cX5_findRow 248 = .ok (.goto 15, 3) := by decide +kernel
theorem dX5_findRow_251 : decode cX5_findRow 251 = .ok (.aload_n 0, 1) := by decide +kernel
theorem dX5_findRow_252 : decode cX5_findRow 252 = .ok (.iload 4, 2) := by decide +kernel
theorem dX5_findRow_254 : decode cX5_findRow 254 = .ok (.iload 5, 2) := by decide +kernel
theorem dX5_findRow_256 : decode cX5_findRow 256 = .ok (.iload 7, 2) := by decide +kernel
theorem dX5_findRow_258 : decode cX5_findRow 258 = .ok (.iload 9, 2) := by decide +kernel
theorem dX5_findRow_260 : decode cX5_findRow 260 = .ok (.invokevirtual 161, 3) := by decide +kernel
theorem dX5_findRow_263 : decode cX5_findRow 263 = .ok (.istore 10, 2) := by decide +kernel
theorem dX5_findRow_265 : decode cX5_findRow 265 = .ok (.aload_n 0, 1) := by decide +kernel
theorem dX5_findRow_266 : decode cX5_findRow 266 = .ok (.getfield 78, 3) := by decide +kernel
theorem dX5_findRow_269 : decode cX5_findRow 269 = .ok (.bipush 10, 2) := by decide +kernel
theorem dX5_findRow_271 : decode cX5_findRow 271 = .ok (.iload 7, 2) := by decide +kernel
theorem dX5_findRow_273 : decode cX5_findRow 273 = .ok (.imul, 1) := by decide +kernel
theorem dX5_findRow_274 : decode cX5_findRow 274 = .ok (.iload 8, 2) := by decide +kernel
theorem dX5_findRow_276 : decode cX5_findRow 276 = .ok (.iadd, 1) := by decide +kernel
theorem dX5_findRow_277 : decode cX5_findRow 277 = .ok (.iaload, 1) := by decide +kernel
theorem dX5_findRow_278 : decode cX5_findRow 278 = .ok (.ldc 108, 2) := by decide +kernel
theorem dX5_findRow_280 : decode cX5_findRow 280 = .ok (.if_icmp .ge 68, 3) := by decide +kernel
theorem dX5_findRow_283 : decode cX5_findRow 283 = .ok (.iload 10, 2) := by decide +kernel
theorem dX5_findRow_285 : decode cX5_findRow 285 = .ok (.ldc 108, 2) := by decide +kernel
theorem dX5_findRow_287 : decode cX5_findRow 287 = .ok (.if_icmp .ge 61, 3) := by decide +kernel
theorem dX5_findRow_290 : decode cX5_findRow 290 = .ok (.iload 10, 2) := by decide +kernel
theorem dX5_findRow_292 : decode cX5_findRow 292 = .ok (.aload_n 0, 1) := by decide +kernel
theorem dX5_findRow_293 : decode cX5_findRow 293 = .ok (.getfield 78, 3) := by decide +kernel
theorem dX5_findRow_296 : decode cX5_findRow 296 = .ok (.bipush 10, 2) := by decide +kernel
theorem dX5_findRow_298 : decode cX5_findRow 298 = .ok (.iload 7, 2) := by decide +kernel
theorem dX5_findRow_300 : decode cX5_findRow 300 = .ok (.imul, 1) := by decide +kernel
theorem dX5_findRow_301 : decode cX5_findRow 301 = .ok (.iload 8, 2) := by decide +kernel
theorem dX5_findRow_303 : decode cX5_findRow 303 = .ok (.iadd, 1) := by decide +kernel
theorem dX5_findRow_304 : decode cX5_findRow 304 = .ok (.iaload, 1) := by decide +kernel
theorem dX5_findRow_305 : decode cX5_findRow 305 = .ok (.iadd, 1) := by decide +kernel
theorem dX5_findRow_306 : decode cX5_findRow 306 = .ok (.iload 6, 2) := by decide +kernel
theorem dX5_findRow_308 : decode cX5_findRow 308 = .ok (.if_icmp .ne 40, 3) := by decide +kernel
theorem dX5_findRow_311 : decode cX5_findRow 311 = .ok (.aload_n 0, 1) := by decide +kernel
theorem dX5_findRow_312 : decode cX5_findRow 312 = .ok (.getfield 81, 3) := by decide +kernel
theorem dX5_findRow_315 : decode cX5_findRow 315 = .ok (.iload 7, 2) := by decide +kernel
theorem dX5_findRow_317 : decode cX5_findRow 317 = .ok (.iload 9, 2) := by decide +kernel
theorem dX5_findRow_319 : decode cX5_findRow 319 = .ok (.iastore, 1) := by decide +kernel
theorem dX5_findRow_320 : decode cX5_findRow 320 = .ok (.aload_n 0, 1) := by decide +kernel
theorem dX5_findRow_321 : decode cX5_findRow 321 = .ok (.getfield 78, 3) := by decide +kernel
theorem dX5_findRow_324 : decode cX5_findRow 324 = .ok (.bipush 10, 2) := by decide +kernel
theorem dX5_findRow_326 : decode cX5_findRow 326 = .ok (.iload 7, 2) := by decide +kernel
theorem dX5_findRow_328 : decode cX5_findRow 328 = .ok (.imul, 1) := by decide +kernel
theorem dX5_findRow_329 : decode cX5_findRow 329 = .ok (.iload 8, 2) := by decide +kernel
theorem dX5_findRow_331 : decode cX5_findRow 331 = .ok (.iadd, 1) := by decide +kernel
theorem dX5_findRow_332 : decode cX5_findRow 332 = .ok (.iaload, 1) := by decide +kernel
theorem dX5_findRow_333 : decode cX5_findRow 333 = .ok (.aload_n 0, 1) := by decide +kernel
theorem dX5_findRow_334 : decode cX5_findRow 334 = .ok (.aload_n 0, 1) := by decide +kernel
theorem dX5_findRow_335 : decode cX5_findRow 335 = .ok (.getfield 147, 3) := by decide +kernel
theorem dX5_findRow_338 : decode cX5_findRow 338 = .ok (.iload 7, 2) := by decide +kernel
theorem dX5_findRow_340 : decode cX5_findRow 340 = .ok (.iload 9, 2) := by decide +kernel
theorem dX5_findRow_342 : decode cX5_findRow 342 = .ok (.invokevirtual 150, 3) := by decide +kernel
theorem dX5_findRow_345 : decode cX5_findRow 345 = .ok (.isub, 1) := by decide +kernel
theorem dX5_findRow_346 : decode cX5_findRow 346 = .ok (.istore 6, 2) := by decide +kernel
theorem dX5_findRow_348 : decode cX5_findRow 348 = .ok (.iinc 8 1, 3) := by decide +kernel
theorem dX5_findRow_351 : decode cX5_findRow 351 = .ok (.goto (-148), 3) := by decide +kernel
theorem dX5_findRow_354 : decode cX5_findRow 354 = .ok (.aload_n 0, 1) := by decide +kernel
theorem dX5_findRow_355 : decode cX5_findRow 355 = .ok (.getfield 81, 3) := by decide +kernel
theorem dX5_findRow_358 : decode cX5_findRow 358 = .ok (.iload 7, 2) := by decide +kernel
theorem dX5_findRow_360 : decode cX5_findRow 360 = .ok (.iaload, 1) := by decide +kernel
theorem dX5_findRow_361 : decode cX5_findRow 361 = .ok (.bipush (-5), 2) := by decide +kernel
theorem dX5_findRow_363 : decode cX5_findRow 363 = .ok (.if_icmp .ne 15, 3) := by decide +kernel
theorem dX5_findRow_366 : decode cX5_findRow 366 = .ok (.iload 6, 2) := by decide +kernel
theorem dX5_findRow_368 : decode cX5_findRow 368 = .ok (.aload_n 0, 1) := by decide +kernel
theorem dX5_findRow_369 : decode cX5_findRow 369 = .ok (.getfield 54, 3) := by decide +kernel
theorem dX5_findRow_372 : decode cX5_findRow 372 = .ok (.isub, 1) := by decide +kernel
theorem dX5_findRow_373 : decode cX5_findRow 373 = .ok (.istore 6, 2) := by decide +kernel
theorem dX5_findRow_375 : decode cX5_findRow 375 = .ok (.goto 16, 3) := by decide +kernel
theorem dX5_findRow_378 : decode cX5_findRow 378 = .ok (.iload 7, 2) := by decide +kernel
theorem dX5_findRow_380 : decode cX5_findRow 380 = .ok (.istore 4, 2) := by decide +kernel
theorem dX5_findRow_382 : decode cX5_findRow 382 = .ok (.aload_n 0, 1) := by decide +kernel
theorem dX5_findRow_383 : decode cX5_findRow 383 = .ok (.getfield 81, 3) := by decide +kernel
theorem dX5_findRow_386 : decode cX5_findRow 386 = .ok (.iload 7, 2) := by decide +kernel
theorem dX5_findRow_388 : decode cX5_findRow 388 = .ok (.iaload, 1) := by decide +kernel
theorem dX5_findRow_389 : decode cX5_findRow 389 = .ok (.istore 5, 2) := by decide +kernel
theorem dX5_findRow_391 : decode cX5_findRow 391 = .ok (.iinc 7 1, 3) := by decide +kernel
theorem dX5_findRow_394 : decode cX5_findRow 394 = .ok (.goto (-209), 3) := by decide +kernel
theorem dX5_findRow_397 : decode cX5_findRow 397 = .ok (.return_, 1) := by decide +kernel
theorem dX5_lay_0 : decode cX5_lay 0 = .ok (.aload_n 0, 1) := by decide +kernel
theorem dX5_lay_1 : decode cX5_lay 1 = .ok (.invokevirtual 138, 3) := by decide +kernel
theorem dX5_lay_4 : decode cX5_lay 4 = .ok (.aload_n 0, 1) := by decide +kernel
theorem dX5_lay_5 : decode cX5_lay 5 = .ok (.iload_n 1, 1) := by decide +kernel
theorem dX5_lay_6 : decode cX5_lay 6 = .ok (.invokevirtual 158, 3) := by decide +kernel
theorem dX5_lay_9 : decode cX5_lay 9 = .ok (.aload_n 0, 1) := by decide +kernel
theorem dX5_lay_10 : decode cX5_lay 10 = .ok (.iconst (-1), 1) := by decide +kernel
theorem dX5_lay_11 : decode cX5_lay 11 = .ok (.iconst (-1), 1) := by decide +kernel
theorem dX5_lay_12 : decode cX5_lay 12 = .ok (.invokevirtual 172, 3) := by decide +kernel
theorem dX5_lay_15 : decode cX5_lay 15 = .ok (.return_, 1) := by decide +kernel
theorem dX5_cost_0 : decode cX5_cost 0 = .ok (.aload_n 0, 1) := by decide +kernel
theorem dX5_cost_1 : decode cX5_cost 1 = .ok (.iload_n 1, 1) := by decide +kernel
theorem dX5_cost_2 : decode cX5_cost 2 = .ok (.invokevirtual 144, 3) := by decide +kernel
theorem dX5_cost_5 : decode cX5_cost 5 = .ok (.ifCond .ne 5, 3) := by decide +kernel
theorem dX5_cost_8 : decode cX5_cost 8 = .ok (.iconst (-1), 1) := by decide +kernel
theorem dX5_cost_9 : decode cX5_cost 9 = .ok (.ireturn, 1) := by decide +kernel
theorem dX5_cost_10 : decode cX5_cost 10 = .ok (.aload_n 0, 1) := by decide +kernel
theorem dX5_cost_11 : decode cX5_cost 11 = .ok (.iload_n 1, 1) := by decide +kernel
theorem dX5_cost_12 : decode cX5_cost 12 = .ok (.invokevirtual 175, 3) := by decide +kernel
theorem dX5_cost_15 : decode cX5_cost 15 = .ok (.aload_n 0, 1) := by decide +kernel
theorem dX5_cost_16 : decode cX5_cost 16 = .ok (.getfield 169, 3) := by decide +kernel
theorem dX5_cost_19 : decode cX5_cost 19 = .ok (.ireturn, 1) := by decide +kernel
theorem dX5_laid_0 : decode cX5_laid 0 = .ok (.aload_n 0, 1) := by decide +kernel
theorem dX5_laid_1 : decode cX5_laid 1 = .ok (.iload_n 1, 1) := by decide +kernel
theorem dX5_laid_2 : decode cX5_laid 2 = .ok (.iload_n 2, 1) := by decide +kernel
theorem dX5_laid_3 : decode cX5_laid 3 = .ok (.invokevirtual 154, 3) := by decide +kernel
theorem dX5_laid_6 : decode cX5_laid 6 = .ok (.ifCond .ne 5, 3) := by decide +kernel
theorem dX5_laid_9 : decode cX5_laid 9 = .ok (.iconst (-1), 1) := by decide +kernel
theorem dX5_laid_10 : decode cX5_laid 10 = .ok (.ireturn, 1) := by decide +kernel
theorem dX5_laid_11 : decode cX5_laid 11 = .ok (.aload_n 0, 1) := by decide +kernel
theorem dX5_laid_12 : decode cX5_laid 12 = .ok (.iload_n 1, 1) := by decide +kernel
theorem dX5_laid_13 : decode cX5_laid 13 = .ok (.invokevirtual 175, 3) := by decide +kernel
theorem dX5_laid_16 : decode cX5_laid 16 = .ok (.aload_n 0, 1) := by decide +kernel
theorem dX5_laid_17 : decode cX5_laid 17 = .ok (.getfield 81, 3) := by decide +kernel
theorem dX5_laid_20 : decode cX5_laid 20 = .ok (.iload_n 2, 1) := by decide +kernel
theorem dX5_laid_21 : decode cX5_laid 21 = .ok (.iaload, 1) := by decide +kernel
theorem dX5_laid_22 : decode cX5_laid 22 = .ok (.ireturn, 1) := by decide +kernel
theorem dX5_isSpot_0 : decode cX5_isSpot 0 = .ok (.iload_n 2, 1) := by decide +kernel
theorem dX5_isSpot_1 : decode cX5_isSpot 1 = .ok (.bipush (-5), 2) := by decide +kernel
theorem dX5_isSpot_3 : decode cX5_isSpot 3 = .ok (.if_icmp .ne 7, 3) := by decide +kernel
theorem dX5_isSpot_6 : decode cX5_isSpot 6 = .ok (.iconst 1, 1) := by decide +kernel
theorem dX5_isSpot_7 : decode cX5_isSpot 7 = .ok (.goto 4, 3) := by decide +kernel
theorem dX5_isSpot_10 : decode cX5_isSpot 10 = .ok (.iconst 0, 1) := by decide +kernel
theorem dX5_isSpot_11 : decode cX5_isSpot 11 = .ok (.istore_n 3, 1) := by decide +kernel
theorem dX5_isSpot_12 : decode cX5_isSpot 12 = .ok (.iconst 0, 1) := by decide +kernel
theorem dX5_isSpot_13 : decode cX5_isSpot 13 = .ok (.istore 4, 2) := by decide +kernel
theorem dX5_isSpot_15 : decode cX5_isSpot 15 = .ok (.iload 4, 2) := by decide +kernel
theorem dX5_isSpot_17 : decode cX5_isSpot 17 = .ok (.aload_n 0, 1) := by decide +kernel
theorem dX5_isSpot_18 : decode cX5_isSpot 18 = .ok (.getfield 75, 3) := by decide +kernel
theorem dX5_isSpot_21 : decode cX5_isSpot 21 = .ok (.iload_n 1, 1) := by decide +kernel
theorem dX5_isSpot_22 : decode cX5_isSpot 22 = .ok (.iaload, 1) := by decide +kernel
theorem dX5_isSpot_23 : decode cX5_isSpot 23 = .ok (.if_icmp .ge 35, 3) := by decide +kernel
theorem dX5_isSpot_26 : decode cX5_isSpot 26 = .ok (.iload_n 3, 1) := by decide +kernel
theorem dX5_isSpot_27 : decode cX5_isSpot 27 = .ok (.ifCond .ne 19, 3) := by decide +kernel
theorem dX5_isSpot_30 : decode cX5_isSpot 30 = .ok (.aload_n 0, 1) := by decide +kernel
theorem dX5_isSpot_31 : decode cX5_isSpot 31 = .ok (.getfield 72, 3) := by decide +kernel
theorem dX5_isSpot_34 : decode cX5_isSpot 34 = .ok (.bipush 10, 2) := by decide +kernel
theorem dX5_isSpot_36 : decode cX5_isSpot 36 = .ok (.iload_n 1, 1) := by decide +kernel
theorem dX5_isSpot_37 : decode cX5_isSpot 37 = .ok (.imul, 1) := by decide +kernel
theorem dX5_isSpot_38 : decode cX5_isSpot 38 = .ok (.iload 4, 2) := by decide +kernel
theorem dX5_isSpot_40 : decode cX5_isSpot 40 = .ok (.iadd, 1) := by decide +kernel
theorem dX5_isSpot_41 : decode cX5_isSpot 41 = .ok (.iaload, 1) := by decide +kernel
theorem dX5_isSpot_42 : decode cX5_isSpot 42 = .ok (.iload_n 2, 1) := by decide +kernel
theorem dX5_isSpot_43 : decode cX5_isSpot 43 = .ok (.if_icmp .ne 7, 3) := by decide +kernel
theorem dX5_isSpot_46 : decode cX5_isSpot 46 = .ok (.iconst 1, 1) := by decide +kernel
theorem dX5_isSpot_47 : decode cX5_isSpot 47 = .ok (.goto 4, 3) := by decide +kernel
theorem dX5_isSpot_50 : decode cX5_isSpot 50 = .ok (.iconst 0, 1) := by decide +kernel
theorem dX5_isSpot_51 : decode cX5_isSpot 51 = .ok (.istore_n 3, 1) := by decide +kernel
theorem dX5_isSpot_52 : decode cX5_isSpot 52 = .ok (.iinc 4 1, 3) := by decide +kernel
theorem dX5_isSpot_55 : decode cX5_isSpot 55 = .ok (.goto (-40), 3) := by decide +kernel
theorem dX5_isSpot_58 : decode cX5_isSpot 58 = .ok (.iload_n 3, 1) := by decide +kernel
theorem dX5_isSpot_59 : decode cX5_isSpot 59 = .ok (.ireturn, 1) := by decide +kernel
theorem dX5_check_0 : decode cX5_check 0 = .ok (.aload_n 0, 1) := by decide +kernel
theorem dX5_check_1 : decode cX5_check 1 = .ok (.iload_n 1, 1) := by decide +kernel
theorem dX5_check_2 : decode cX5_check 2 = .ok (.invokevirtual 144, 3) := by decide +kernel
theorem dX5_check_5 : decode cX5_check 5 = .ok (.ifCond .ne 5, 3) := by decide +kernel
theorem dX5_check_8 : decode cX5_check 8 = .ok (.iconst (-1), 1) := by decide +kernel
theorem dX5_check_9 : decode cX5_check 9 = .ok (.ireturn, 1) := by decide +kernel
theorem dX5_check_10 : decode cX5_check 10 = .ok (.aload_n 0, 1) := by decide +kernel
theorem dX5_check_11 : decode cX5_check 11 = .ok (.getfield 178, 3) := by decide +kernel
theorem dX5_check_14 : decode cX5_check 14 = .ok (.istore_n 2, 1) := by decide +kernel
theorem dX5_check_15 : decode cX5_check 15 = .ok (.aload_n 0, 1) := by decide +kernel
theorem dX5_check_16 : decode cX5_check 16 = .ok (.iconst 0, 1) := by decide +kernel
theorem dX5_check_17 : decode cX5_check 17 = .ok (.putfield 178, 3) := by decide +kernel
theorem dX5_check_20 : decode cX5_check 20 = .ok (.aload_n 0, 1) := by decide +kernel
theorem dX5_check_21 : decode cX5_check 21 = .ok (.invokevirtual 138, 3) := by decide +kernel
theorem dX5_check_24 : decode cX5_check 24 = .ok (.aload_n 0, 1) := by decide +kernel
theorem dX5_check_25 : decode cX5_check 25 = .ok (.iload_n 1, 1) := by decide +kernel
theorem dX5_check_26 : decode cX5_check 26 = .ok (.invokevirtual 158, 3) := by decide +kernel
theorem dX5_check_29 : decode cX5_check 29 = .ok (.iload_n 2, 1) := by decide +kernel
theorem dX5_check_30 : decode cX5_check 30 = .ok (.aload_n 0, 1) := by decide +kernel
theorem dX5_check_31 : decode cX5_check 31 = .ok (.getfield 47, 3) := by decide +kernel
theorem dX5_check_34 : decode cX5_check 34 = .ok (.iload_n 1, 1) := by decide +kernel
theorem dX5_check_35 : decode cX5_check 35 = .ok (.iaload, 1) := by decide +kernel
theorem dX5_check_36 : decode cX5_check 36 = .ok (.if_icmp .ne 7, 3) := by decide +kernel
theorem dX5_check_39 : decode cX5_check 39 = .ok (.iconst 1, 1) := by decide +kernel
theorem dX5_check_40 : decode cX5_check 40 = .ok (.goto 4, 3) := by decide +kernel
theorem dX5_check_43 : decode cX5_check 43 = .ok (.iconst 0, 1) := by decide +kernel
theorem dX5_check_44 : decode cX5_check 44 = .ok (.istore_n 3, 1) := by decide +kernel
theorem dX5_check_45 : decode cX5_check 45 = .ok (.iconst 0, 1) := by decide +kernel
theorem dX5_check_46 : decode cX5_check 46 = .ok (.istore 4, 2) := by decide +kernel
theorem dX5_check_48 : decode cX5_check 48 = .ok (.iload 4, 2) := by decide +kernel
theorem dX5_check_50 : decode cX5_check 50 = .ok (.iload_n 2, 1) := by decide +kernel
theorem dX5_check_51 : decode cX5_check 51 = .ok (.if_icmp .ge 27, 3) := by decide +kernel
theorem dX5_check_54 : decode cX5_check 54 = .ok (.iload_n 3, 1) := by decide +kernel
theorem dX5_check_55 : decode cX5_check 55 = .ok (.ifCond .eq 23, 3) := by decide +kernel
theorem dX5_check_58 : decode cX5_check 58 = .ok (.aload_n 0, 1) := by decide +kernel
theorem dX5_check_59 : decode cX5_check 59 = .ok (.iload 4, 2) := by decide +kernel
theorem dX5_check_61 : decode cX5_check 61 = .ok (.aload_n 0, 1) := by decide +kernel
theorem dX5_check_62 : decode cX5_check 62 = .ok (.getfield 57, 3) := by decide +kernel
theorem dX5_check_65 : decode cX5_check 65 = .ok (.iload 4, 2) := by decide +kernel
theorem dX5_check_67 : decode cX5_check 67 = .ok (.iaload, 1) := by decide +kernel
theorem dX5_check_68 : decode cX5_check 68 = .ok (.invokevirtual 181, 3) := by decide +kernel
theorem dX5_check_71 : decode cX5_check 71 = .ok (.istore_n 3, 1) := by decide +kernel
theorem dX5_check_72 : decode cX5_check 72 = .ok (.iinc 4 1, 3) := by decide +kernel
theorem dX5_check_75 : decode cX5_check 75 = .ok (.goto (-27), 3) := by decide +kernel
theorem dX5_check_78 : decode cX5_check 78 = .ok (.iload_n 3, 1) := by decide +kernel
theorem dX5_check_79 : decode cX5_check 79 = .ok (.ifCond .ne 6, 3) := by decide +kernel
theorem dX5_check_82 : decode cX5_check 82 = .ok (.bipush (-3), 2) := by decide +kernel
theorem dX5_check_84 : decode cX5_check 84 = .ok (.ireturn, 1) := by decide +kernel
theorem dX5_check_85 : decode cX5_check 85 = .ok (.iconst 0, 1) := by decide +kernel
theorem dX5_check_86 : decode cX5_check 86 = .ok (.istore 4, 2) := by decide +kernel
theorem dX5_check_88 : decode cX5_check 88 = .ok (.iconst (-1), 1) := by decide +kernel
theorem dX5_check_89 : decode cX5_check 89 = .ok (.istore 5, 2) := by decide +kernel
theorem dX5_check_91 : decode cX5_check 91 = .ok (.iconst 0, 1) := by decide +kernel
theorem dX5_check_92 : decode cX5_check 92 = .ok (.istore 6, 2) := by decide +kernel
theorem dX5_check_94 : decode cX5_check 94 = .ok (.iload 6, 2) := by decide +kernel
theorem dX5_check_96 : decode cX5_check 96 = .ok (.iload_n 2, 1) := by decide +kernel
theorem dX5_check_97 : decode cX5_check 97 = .ok (.if_icmp .ge 102, 3) := by decide +kernel
theorem dX5_check_100 : decode cX5_check 100 = .ok (.aload_n 0, 1) := by decide +kernel
theorem dX5_check_101 : decode cX5_check 101 = .ok (.getfield 57, 3) := by decide +kernel
theorem dX5_check_104 : decode cX5_check 104 = .ok (.iload 6, 2) := by decide +kernel
theorem dX5_check_106 : decode cX5_check 106 = .ok (.iaload, 1) := by decide +kernel
theorem dX5_check_107 : decode cX5_check 107 = .ok (.bipush (-5), 2) := by decide +kernel
theorem dX5_check_109 : decode cX5_check 109 = .ok (.if_icmp .ne 15, 3) := by decide +kernel
theorem dX5_check_112 : decode cX5_check 112 = .ok (.iload 4, 2) := by decide +kernel
theorem dX5_check_114 : decode cX5_check 114 = .ok (.aload_n 0, 1) := by decide +kernel
theorem dX5_check_115 : decode cX5_check 115 = .ok (.getfield 54, 3) := by decide +kernel
theorem dX5_check_118 : decode cX5_check 118 = .ok (.iadd, 1) := by decide +kernel
theorem dX5_check_119 : decode cX5_check 119 = .ok (.istore 4, 2) := by decide +kernel
theorem dX5_check_121 : decode cX5_check 121 = .ok (.goto 72, 3) := by decide +kernel
theorem dX5_check_124 : decode cX5_check 124 = .ok (.iload 5, 2) := by decide +kernel
theorem dX5_check_126 : decode cX5_check 126 = .ok (.ifCond .ge 7, 3) := by decide +kernel
theorem dX5_check_129 : decode cX5_check 129 = .ok (.iconst 0, 1) := by decide +kernel
theorem dX5_check_130 : decode cX5_check 130 = .ok (.goto 25, 3) := by decide +kernel
theorem dX5_check_133 : decode cX5_check 133 = .ok (.aload_n 0, 1) := by decide +kernel
theorem dX5_check_134 : decode cX5_check 134 = .ok (.iload 5, 2) := by decide +kernel
theorem dX5_check_136 : decode cX5_check 136 = .ok (.aload_n 0, 1) := by decide +kernel
theorem dX5_check_137 : decode cX5_check 137 = .ok (.getfield 57, 3) := by decide +kernel
theorem dX5_check_140 : decode cX5_check 140 = .ok (.iload 5, 2) := by decide +kernel
theorem dX5_check_142 : decode cX5_check 142 = .ok (.iaload, 1) := by decide +kernel
theorem dX5_check_143 : decode cX5_check 143 = .ok (.iload 6, 2) := by decide +kernel
theorem dX5_check_145 : decode cX5_check 145 = .ok (.aload_n 0, 1) := by decide +kernel
theorem dX5_check_146 : decode cX5_check 146 = .ok (.getfield 57, 3) := by decide +kernel
theorem dX5_check_149 : decode cX5_check 149 = .ok (.iload 6, 2) := by decide +kernel
theorem dX5_check_151 : decode cX5_check 151 = .ok (.iaload, 1) := by decide +kernel
theorem dX5_check_152 : decode cX5_check 152 = .ok (.invokevirtual 161, 3) := by decide +kernel
theorem dX5_check_155 : decode cX5_check 155 = .ok (.istore 7, 2) := by decide +kernel
theorem dX5_check_157 : decode cX5_check 157 = .ok (.iload 7, 2) := by decide +kernel
theorem dX5_check_159 : decode cX5_check 159 = .ok (.ldc 108, 2) := by decide +kernel
theorem dX5_check_161 : decode cX5_check 161 = .ok (.if_icmp .lt 6, 3) := by decide +kernel
theorem dX5_check_164 : decode cX5_check 164 = .ok (.bipush (-4), 2) := by decide +kernel
theorem dX5_check_166 : decode cX5_check 166 = .ok (.ireturn, 1) := by decide +kernel
theorem dX5_check_167 : decode cX5_check 167 = .ok (.iload 4, 2) := by decide +kernel
theorem dX5_check_169 : decode cX5_check 169 = .ok (.iload 7, 2) := by decide +kernel
theorem dX5_check_171 : decode cX5_check 171 = .ok (.aload_n 0, 1) := by decide +kernel
theorem dX5_check_172 : decode cX5_check 172 = .ok (.iload_n 1, 1) := by decide +kernel
theorem dX5_check_173 : decode cX5_check 173 = .ok (.iload 6, 2) := by decide +kernel
theorem dX5_check_175 : decode cX5_check 175 = .ok (.aload_n 0, 1) := by decide +kernel
theorem dX5_check_176 : decode cX5_check 176 = .ok (.getfield 57, 3) := by decide +kernel
theorem dX5_check_179 : decode cX5_check 179 = .ok (.iload 6, 2) := by decide +kernel
theorem dX5_check_181 : decode cX5_check 181 = .ok (.iaload, 1) := by decide +kernel
theorem dX5_check_182 : decode cX5_check 182 = .ok (.invokevirtual 150, 3) := by decide +kernel
theorem dX5_check_185 : decode cX5_check 185 = .ok (.iadd, 1) := by decide +kernel
theorem dX5_check_186 : decode cX5_check 186 = .ok (.iadd, 1) := by decide +kernel
theorem dX5_check_187 : decode cX5_check 187 = .ok (.istore 4, 2) := by decide +kernel
theorem dX5_check_189 : decode cX5_check 189 = .ok (.iload 6, 2) := by decide +kernel
theorem dX5_check_191 : decode cX5_check 191 = .ok (.istore 5, 2) := by decide +kernel
theorem dX5_check_193 : decode cX5_check 193 = .ok (.iinc 6 1, 3) := by decide +kernel
theorem dX5_check_196 : decode cX5_check 196 = .ok (.goto (-102), 3) := by decide +kernel
theorem dX5_check_199 : decode cX5_check 199 = .ok (.iload 4, 2) := by decide +kernel
theorem dX5_check_201 : decode cX5_check 201 = .ok (.ireturn, 1) := by decide +kernel
theorem dX5_list_0 : decode cX5_list 0 = .ok (.iload_n 1, 1) := by decide +kernel
theorem dX5_list_1 : decode cX5_list 1 = .ok (.bipush (-5), 2) := by decide +kernel
theorem dX5_list_3 : decode cX5_list 3 = .ok (.if_icmp .eq 13, 3) := by decide +kernel
theorem dX5_list_6 : decode cX5_list 6 = .ok (.aload_n 0, 1) := by decide +kernel
theorem dX5_list_7 : decode cX5_list 7 = .ok (.iload_n 1, 1) := by decide +kernel
theorem dX5_list_8 : decode cX5_list 8 = .ok (.invokevirtual 135, 3) := by decide +kernel
theorem dX5_list_11 : decode cX5_list 11 = .ok (.ifCond .ne 5, 3) := by decide +kernel
theorem dX5_list_14 : decode cX5_list 14 = .ok (.iconst (-1), 1) := by decide +kernel
theorem dX5_list_15 : decode cX5_list 15 = .ok (.ireturn, 1) := by decide +kernel
theorem dX5_list_16 : decode cX5_list 16 = .ok (.aload_n 0, 1) := by decide +kernel
theorem dX5_list_17 : decode cX5_list 17 = .ok (.getfield 178, 3) := by decide +kernel
theorem dX5_list_20 : decode cX5_list 20 = .ok (.bipush 20, 2) := by decide +kernel
theorem dX5_list_22 : decode cX5_list 22 = .ok (.if_icmp .ne 6, 3) := by decide +kernel
theorem dX5_list_25 : decode cX5_list 25 = .ok (.bipush (-2), 2) := by decide +kernel
theorem dX5_list_27 : decode cX5_list 27 = .ok (.ireturn, 1) := by decide +kernel
theorem dX5_list_28 : decode cX5_list 28 = .ok (.aload_n 0, 1) := by decide +kernel
theorem dX5_list_29 : decode cX5_list 29 = .ok (.getfield 57, 3) := by decide +kernel
theorem dX5_list_32 : decode cX5_list 32 = .ok (.aload_n 0, 1) := by decide +kernel
theorem dX5_list_33 : decode cX5_list 33 = .ok (.getfield 178, 3) := by decide +kernel
theorem dX5_list_36 : decode cX5_list 36 = .ok (.iload_n 1, 1) := by decide +kernel
theorem dX5_list_37 : decode cX5_list 37 = .ok (.iastore, 1) := by decide +kernel
theorem dX5_list_38 : decode cX5_list 38 = .ok (.aload_n 0, 1) := by decide +kernel
theorem dX5_list_39 : decode cX5_list 39 = .ok (.dup, 1) := by decide +kernel
theorem dX5_list_40 : decode cX5_list 40 = .ok (.getfield 178, 3) := by decide +kernel
theorem dX5_list_43 : decode cX5_list 43 = .ok (.iconst 1, 1) := by decide +kernel
theorem dX5_list_44 : decode cX5_list 44 = .ok (.iadd, 1) := by decide +kernel
theorem dX5_list_45 : decode cX5_list 45 = .ok (.putfield 178, 3) := by decide +kernel
theorem dX5_list_48 : decode cX5_list 48 = .ok (.aload_n 0, 1) := by decide +kernel
theorem dX5_list_49 : decode cX5_list 49 = .ok (.getfield 178, 3) := by decide +kernel
theorem dX5_list_52 : decode cX5_list 52 = .ok (.ireturn, 1) := by decide +kernel
theorem dX5_alike_0 : decode cX5_alike 0 = .ok (.iconst 0, 1) := by decide +kernel
theorem dX5_alike_1 : decode cX5_alike 1 = .ok (.istore_n 3, 1) := by decide +kernel
theorem dX5_alike_2 : decode cX5_alike 2 = .ok (.iload_n 3, 1) := by decide +kernel
theorem dX5_alike_3 : decode cX5_alike 3 = .ok (.iload_n 1, 1) := by decide +kernel
theorem dX5_alike_4 : decode cX5_alike 4 = .ok (.if_icmp .ge 40, 3) := by decide +kernel
theorem dX5_alike_7 : decode cX5_alike 7 = .ok (.iload_n 2, 1) := by decide +kernel
theorem dX5_alike_8 : decode cX5_alike 8 = .ok (.ifCond .ne 18, 3) := by decide +kernel
theorem dX5_alike_11 : decode cX5_alike 11 = .ok (.aload_n 0, 1) := by decide +kernel
theorem dX5_alike_12 : decode cX5_alike 12 = .ok (.getfield 81, 3) := by decide +kernel
theorem dX5_alike_15 : decode cX5_alike 15 = .ok (.iload_n 3, 1) := by decide +kernel
theorem dX5_alike_16 : decode cX5_alike 16 = .ok (.iaload, 1) := by decide +kernel
theorem dX5_alike_17 : decode cX5_alike 17 = .ok (.aload_n 0, 1) := by decide +kernel
theorem dX5_alike_18 : decode cX5_alike 18 = .ok (.getfield 84, 3) := by decide +kernel
theorem dX5_alike_21 : decode cX5_alike 21 = .ok (.iload_n 3, 1) := by decide +kernel
theorem dX5_alike_22 : decode cX5_alike 22 = .ok (.iaload, 1) := by decide +kernel
theorem dX5_alike_23 : decode cX5_alike 23 = .ok (.if_icmp .ne 21, 3) := by decide +kernel
theorem dX5_alike_26 : decode cX5_alike 26 = .ok (.aload_n 0, 1) := by decide +kernel
theorem dX5_alike_27 : decode cX5_alike 27 = .ok (.getfield 84, 3) := by decide +kernel
theorem dX5_alike_30 : decode cX5_alike 30 = .ok (.iload_n 3, 1) := by decide +kernel
theorem dX5_alike_31 : decode cX5_alike 31 = .ok (.aload_n 0, 1) := by decide +kernel
theorem dX5_alike_32 : decode cX5_alike 32 = .ok (.getfield 81, 3) := by decide +kernel
theorem dX5_alike_35 : decode cX5_alike 35 = .ok (.iload_n 3, 1) := by decide +kernel
theorem dX5_alike_36 : decode cX5_alike 36 = .ok (.iaload, 1) := by decide +kernel
theorem dX5_alike_37 : decode cX5_alike 37 = .ok (.iastore, 1) := by decide +kernel
theorem dX5_alike_38 : decode cX5_alike 38 = .ok (.iinc 3 1, 3) := by decide +kernel
theorem dX5_alike_41 : decode cX5_alike 41 = .ok (.goto (-39), 3) := by decide +kernel
theorem dX5_alike_44 : decode cX5_alike 44 = .ok (.iload_n 3, 1) := by decide +kernel
theorem dX5_alike_45 : decode cX5_alike 45 = .ok (.ireturn, 1) := by decide +kernel
theorem dX5_sure_0 : decode cX5_sure 0 = .ok (.aload_n 0, 1) := by decide +kernel
theorem dX5_sure_1 : decode cX5_sure 1 = .ok (.iload_n 1, 1) := by decide +kernel
theorem dX5_sure_2 : decode cX5_sure 2 = .ok (.invokevirtual 144, 3) := by decide +kernel
theorem dX5_sure_5 : decode cX5_sure 5 = .ok (.ifCond .eq 13, 3) := by decide +kernel
theorem dX5_sure_8 : decode cX5_sure 8 = .ok (.iload_n 2, 1) := by decide +kernel
theorem dX5_sure_9 : decode cX5_sure 9 = .ok (.iconst 0, 1) := by decide +kernel
theorem dX5_sure_10 : decode cX5_sure 10 = .ok (.ldc 184, 2) := by decide +kernel
theorem dX5_sure_12 : decode cX5_sure 12 = .ok (.invokestatic 87, 3) := by decide +kernel
theorem dX5_sure_15 : decode cX5_sure 15 = .ok (.ifCond .ne 5, 3) := by decide +kernel
theorem dX5_sure_18 : decode cX5_sure 18 = .ok (.iconst (-1), 1) := by decide +kernel
theorem dX5_sure_19 : decode cX5_sure 19 = .ok (.ireturn, 1) := by decide +kernel
theorem dX5_sure_20 : decode cX5_sure 20 = .ok (.aload_n 0, 1) := by decide +kernel
theorem dX5_sure_21 : decode cX5_sure 21 = .ok (.iload_n 1, 1) := by decide +kernel
theorem dX5_sure_22 : decode cX5_sure 22 = .ok (.invokevirtual 175, 3) := by decide +kernel
theorem dX5_sure_25 : decode cX5_sure 25 = .ok (.aload_n 0, 1) := by decide +kernel
theorem dX5_sure_26 : decode cX5_sure 26 = .ok (.getfield 169, 3) := by decide +kernel
theorem dX5_sure_29 : decode cX5_sure 29 = .ok (.iload_n 2, 1) := by decide +kernel
theorem dX5_sure_30 : decode cX5_sure 30 = .ok (.iadd, 1) := by decide +kernel
theorem dX5_sure_31 : decode cX5_sure 31 = .ok (.istore_n 3, 1) := by decide +kernel
theorem dX5_sure_32 : decode cX5_sure 32 = .ok (.aload_n 0, 1) := by decide +kernel
theorem dX5_sure_33 : decode cX5_sure 33 = .ok (.getfield 47, 3) := by decide +kernel
theorem dX5_sure_36 : decode cX5_sure 36 = .ok (.iload_n 1, 1) := by decide +kernel
theorem dX5_sure_37 : decode cX5_sure 37 = .ok (.iaload, 1) := by decide +kernel
theorem dX5_sure_38 : decode cX5_sure 38 = .ok (.istore 4, 2) := by decide +kernel
theorem dX5_sure_40 : decode cX5_sure 40 = .ok (.iload 4, 2) := by decide +kernel
theorem dX5_sure_42 : decode cX5_sure 42 = .ok (.istore 5, 2) := by decide +kernel
theorem dX5_sure_44 : decode cX5_sure 44 = .ok (.iconst 1, 1) := by decide +kernel
theorem dX5_sure_45 : decode cX5_sure 45 = .ok (.istore 6, 2) := by decide +kernel
theorem dX5_sure_47 : decode cX5_sure 47 = .ok (.aload_n 0, 1) := by decide +kernel
theorem dX5_sure_48 : decode cX5_sure 48 = .ok (.getfield 54, 3) := by decide +kernel
theorem dX5_sure_51 : decode cX5_sure 51 = .ok (.iload 4, 2) := by decide +kernel
theorem dX5_sure_53 : decode cX5_sure 53 = .ok (.imul, 1) := by decide +kernel
theorem dX5_sure_54 : decode cX5_sure 54 = .ok (.iload_n 3, 1) := by decide +kernel
theorem dX5_sure_55 : decode cX5_sure 55 = .ok (.if_icmp .gt 40, 3) := by decide +kernel
theorem dX5_sure_58 : decode cX5_sure 58 = .ok (.iconst 0, 1) := by decide +kernel
theorem dX5_sure_59 : decode cX5_sure 59 = .ok (.istore 7, 2) := by decide +kernel
theorem dX5_sure_61 : decode cX5_sure 61 = .ok (.iload 7, 2) := by decide +kernel
theorem dX5_sure_63 : decode cX5_sure 63 = .ok (.iload 4, 2) := by decide +kernel
theorem dX5_sure_65 : decode cX5_sure 65 = .ok (.if_icmp .ge 18, 3) := by decide +kernel
theorem dX5_sure_68 : decode cX5_sure 68 = .ok (.aload_n 0, 1) := by decide +kernel
theorem dX5_sure_69 : decode cX5_sure 69 = .ok (.getfield 81, 3) := by decide +kernel
theorem dX5_sure_72 : decode cX5_sure 72 = .ok (.iload 7, 2) := by decide +kernel
theorem dX5_sure_74 : decode cX5_sure 74 = .ok (.bipush (-5), 2) := by decide +kernel
theorem dX5_sure_76 : decode cX5_sure 76 = .ok (.iastore, 1) := by decide +kernel
theorem dX5_sure_77 : decode cX5_sure 77 = .ok (.iinc 7 1, 3) := by decide +kernel
theorem dX5_sure_80 : decode cX5_sure 80 = .ok (.goto (-19), 3) := by decide +kernel
theorem dX5_sure_83 : decode cX5_sure 83 = .ok (.aload_n 0, 1) := by decide +kernel
theorem dX5_sure_84 : decode cX5_sure 84 = .ok (.iload 5, 2) := by decide +kernel
theorem dX5_sure_86 : decode cX5_sure 86 = .ok (.iconst 1, 1) := by decide +kernel
theorem dX5_sure_87 : decode cX5_sure 87 = .ok (.invokevirtual 185, 3) := by decide +kernel
theorem dX5_sure_90 : decode cX5_sure 90 = .ok (.istore 5, 2) := by decide +kernel
theorem dX5_sure_92 : decode cX5_sure 92 = .ok (.iconst 0, 1) := by decide +kernel
theorem dX5_sure_93 : decode cX5_sure 93 = .ok (.istore 6, 2) := by decide +kernel
theorem dX5_sure_95 : decode cX5_sure 95 = .ok (.iconst 0, 1) := by decide +kernel
theorem dX5_sure_96 : decode cX5_sure 96 = .ok (.istore 7, 2) := by decide +kernel
theorem dX5_sure_98 : decode cX5_sure 98 = .ok (.iload 7, 2) := by decide +kernel
theorem dX5_sure_100 : decode cX5_sure 100 = .ok (.iload 4, 2) := by decide +kernel
theorem dX5_sure_102 : decode cX5_sure 102 = .ok (.if_icmp .ge 70, 3) := by decide +kernel
theorem dX5_sure_105 : decode cX5_sure 105 = .ok (.iconst 0, 1) := by decide +kernel
theorem dX5_sure_106 : decode cX5_sure 106 = .ok (.istore 8, 2) := by decide +kernel
theorem dX5_sure_108 : decode cX5_sure 108 = .ok (.iload 8, 2) := by decide +kernel
theorem dX5_sure_110 : decode cX5_sure 110 = .ok (.aload_n 0, 1) := by decide +kernel
theorem dX5_sure_111 : decode cX5_sure 111 = .ok (.getfield 75, 3) := by decide +kernel
theorem dX5_sure_114 : decode cX5_sure 114 = .ok (.iload 7, 2) := by decide +kernel
theorem dX5_sure_116 : decode cX5_sure 116 = .ok (.iaload, 1) := by decide +kernel
theorem dX5_sure_117 : decode cX5_sure 117 = .ok (.if_icmp .ge 49, 3) := by decide +kernel
theorem dX5_sure_120 : decode cX5_sure 120 = .ok (.aload_n 0, 1) := by decide +kernel
theorem dX5_sure_121 : decode cX5_sure 121 = .ok (.iload 7, 2) := by decide +kernel
theorem dX5_sure_123 : decode cX5_sure 123 = .ok (.aload_n 0, 1) := by decide +kernel
theorem dX5_sure_124 : decode cX5_sure 124 = .ok (.getfield 72, 3) := by decide +kernel
theorem dX5_sure_127 : decode cX5_sure 127 = .ok (.bipush 10, 2) := by decide +kernel
theorem dX5_sure_129 : decode cX5_sure 129 = .ok (.iload 7, 2) := by decide +kernel
theorem dX5_sure_131 : decode cX5_sure 131 = .ok (.imul, 1) := by decide +kernel
theorem dX5_sure_132 : decode cX5_sure 132 = .ok (.iload 8, 2) := by decide +kernel
theorem dX5_sure_134 : decode cX5_sure 134 = .ok (.iadd, 1) := by decide +kernel
theorem dX5_sure_135 : decode cX5_sure 135 = .ok (.iaload, 1) := by decide +kernel
theorem dX5_sure_136 : decode cX5_sure 136 = .ok (.invokevirtual 172, 3) := by decide +kernel
theorem dX5_sure_139 : decode cX5_sure 139 = .ok (.aload_n 0, 1) := by decide +kernel
theorem dX5_sure_140 : decode cX5_sure 140 = .ok (.getfield 169, 3) := by decide +kernel
theorem dX5_sure_143 : decode cX5_sure 143 = .ok (.iload_n 3, 1) := by decide +kernel
theorem dX5_sure_144 : decode cX5_sure 144 = .ok (.if_icmp .gt 16, 3) := by decide +kernel
theorem dX5_sure_147 : decode cX5_sure 147 = .ok (.aload_n 0, 1) := by decide +kernel
theorem dX5_sure_148 : decode cX5_sure 148 = .ok (.iload 5, 2) := by decide +kernel
theorem dX5_sure_150 : decode cX5_sure 150 = .ok (.iload 6, 2) := by decide +kernel
theorem dX5_sure_152 : decode cX5_sure 152 = .ok (.invokevirtual 185, 3) := by decide +kernel
theorem dX5_sure_155 : decode cX5_sure 155 = .ok (.istore 5, 2) := by decide +kernel
theorem dX5_sure_157 : decode cX5_sure 157 = .ok (.iconst 0, 1) := by decide +kernel
theorem dX5_sure_158 : decode cX5_sure 158 = .ok (.istore 6, 2) := by decide +kernel
theorem dX5_sure_160 : decode cX5_sure 160 = .ok (.iinc 8 1, 3) := by decide +kernel
theorem dX5_sure_163 : decode cX5_sure 163 = .ok (.goto (-55), 3) := by decide +kernel
theorem dX5_sure_166 : decode cX5_sure 166 = .ok (.iinc 7 1, 3) := by decide +kernel
theorem dX5_sure_169 : decode cX5_sure 169 = .ok (.goto (-71), 3) := by decide +kernel
theorem dX5_sure_172 : decode cX5_sure 172 = .ok (.iload 5, 2) := by decide +kernel
theorem dX5_sure_174 : decode cX5_sure 174 = .ok (.ireturn, 1) := by decide +kernel
theorem dX5_toll_0 : decode cX5_toll 0 = .ok (.aload_n 0, 1) := by decide +kernel
theorem dX5_toll_1 : decode cX5_toll 1 = .ok (.iload_n 1, 1) := by decide +kernel
theorem dX5_toll_2 : decode cX5_toll 2 = .ok (.invokevirtual 144, 3) := by decide +kernel
theorem dX5_toll_5 : decode cX5_toll 5 = .ok (.ifCond .ne 5, 3) := by decide +kernel
theorem dX5_toll_8 : decode cX5_toll 8 = .ok (.iconst (-1), 1) := by decide +kernel
theorem dX5_toll_9 : decode cX5_toll 9 = .ok (.ireturn, 1) := by decide +kernel
theorem dX5_toll_10 : decode cX5_toll 10 = .ok (.aload_n 0, 1) := by decide +kernel
theorem dX5_toll_11 : decode cX5_toll 11 = .ok (.iload_n 1, 1) := by decide +kernel
theorem dX5_toll_12 : decode cX5_toll 12 = .ok (.invokevirtual 175, 3) := by decide +kernel
theorem dX5_toll_15 : decode cX5_toll 15 = .ok (.iconst 0, 1) := by decide +kernel
theorem dX5_toll_16 : decode cX5_toll 16 = .ok (.istore_n 2, 1) := by decide +kernel
theorem dX5_toll_17 : decode cX5_toll 17 = .ok (.iconst (-1), 1) := by decide +kernel
theorem dX5_toll_18 : decode cX5_toll 18 = .ok (.istore_n 3, 1) := by decide +kernel
theorem dX5_toll_19 : decode cX5_toll 19 = .ok (.iconst 0, 1) := by decide +kernel
theorem dX5_toll_20 : decode cX5_toll 20 = .ok (.istore 4, 2) := by decide +kernel
theorem dX5_toll_22 : decode cX5_toll 22 = .ok (.iload 4, 2) := by decide +kernel
theorem dX5_toll_24 : decode cX5_toll 24 = .ok (.aload_n 0, 1) := by decide +kernel
theorem dX5_toll_25 : decode cX5_toll 25 = .ok (.getfield 47, 3) := by decide +kernel
theorem dX5_toll_28 : decode cX5_toll 28 = .ok (.iload_n 1, 1) := by decide +kernel
theorem dX5_toll_29 : decode cX5_toll 29 = .ok (.iaload, 1) := by decide +kernel
theorem dX5_toll_30 : decode cX5_toll 30 = .ok (.if_icmp .ge 58, 3) := by decide +kernel
theorem dX5_toll_33 : decode cX5_toll 33 = .ok (.aload_n 0, 1) := by decide +kernel
theorem dX5_toll_34 : decode cX5_toll 34 = .ok (.getfield 81, 3) := by decide +kernel
theorem dX5_toll_37 : decode cX5_toll 37 = .ok (.iload 4, 2) := by decide +kernel
theorem dX5_toll_39 : decode cX5_toll 39 = .ok (.iaload, 1) := by decide +kernel
theorem dX5_toll_40 : decode cX5_toll 40 = .ok (.bipush (-5), 2) := by decide +kernel
theorem dX5_toll_42 : decode cX5_toll 42 = .ok (.if_icmp .eq 40, 3) := by decide +kernel
theorem dX5_toll_45 : decode cX5_toll 45 = .ok (.iload_n 2, 1) := by decide +kernel
theorem dX5_toll_46 : decode cX5_toll 46 = .ok (.iload_n 3, 1) := by decide +kernel
theorem dX5_toll_47 : decode cX5_toll 47 = .ok (.ifCond .ge 7, 3) := by decide +kernel
theorem dX5_toll_50 : decode cX5_toll 50 = .ok (.iconst 0, 1) := by decide +kernel
theorem dX5_toll_51 : decode cX5_toll 51 = .ok (.goto 21, 3) := by decide +kernel
theorem dX5_toll_54 : decode cX5_toll 54 = .ok (.aload_n 0, 1) := by decide +kernel
theorem dX5_toll_55 : decode cX5_toll 55 = .ok (.getfield 63, 3) := by decide +kernel
theorem dX5_toll_58 : decode cX5_toll 58 = .ok (.sipush 150, 3) := by decide +kernel
theorem dX5_toll_61 : decode cX5_toll 61 = .ok (.iload_n 3, 1) := by decide +kernel
theorem dX5_toll_62 : decode cX5_toll 62 = .ok (.imul, 1) := by decide +kernel
theorem dX5_toll_63 : decode cX5_toll 63 = .ok (.aload_n 0, 1) := by decide +kernel
theorem dX5_toll_64 : decode cX5_toll 64 = .ok (.getfield 81, 3) := by decide +kernel
theorem dX5_toll_67 : decode cX5_toll 67 = .ok (.iload 4, 2) := by decide +kernel
theorem dX5_toll_69 : decode cX5_toll 69 = .ok (.iaload, 1) := by decide +kernel
theorem dX5_toll_70 : decode cX5_toll 70 = .ok (.iadd, 1) := by decide +kernel
theorem dX5_toll_71 : decode cX5_toll 71 = .ok (.iaload, 1) := by decide +kernel
theorem dX5_toll_72 : decode cX5_toll 72 = .ok (.iadd, 1) := by decide +kernel
theorem dX5_toll_73 : decode cX5_toll 73 = .ok (.istore_n 2, 1) := by decide +kernel
theorem dX5_toll_74 : decode cX5_toll 74 = .ok (.aload_n 0, 1) := by decide +kernel
theorem dX5_toll_75 : decode cX5_toll 75 = .ok (.getfield 81, 3) := by decide +kernel
theorem dX5_toll_78 : decode cX5_toll 78 = .ok (.iload 4, 2) := by decide +kernel
theorem dX5_toll_80 : decode cX5_toll 80 = .ok (.iaload, 1) := by decide +kernel
theorem dX5_toll_81 : decode cX5_toll 81 = .ok (.istore_n 3, 1) := by decide +kernel
theorem dX5_toll_82 : decode cX5_toll 82 = .ok (.iinc 4 1, 3) := by decide +kernel
theorem dX5_toll_85 : decode cX5_toll 85 = .ok (.goto (-63), 3) := by decide +kernel
theorem dX5_toll_88 : decode cX5_toll 88 = .ok (.iload_n 2, 1) := by decide +kernel
theorem dX5_toll_89 : decode cX5_toll 89 = .ok (.ireturn, 1) := by decide +kernel
theorem dX5_speed_0 : decode cX5_speed 0 = .ok (.aload_n 0, 1) := by decide +kernel
theorem dX5_speed_1 : decode cX5_speed 1 = .ok (.iload_n 1, 1) := by decide +kernel
theorem dX5_speed_2 : decode cX5_speed 2 = .ok (.iload_n 2, 1) := by decide +kernel
theorem dX5_speed_3 : decode cX5_speed 3 = .ok (.invokevirtual 154, 3) := by decide +kernel
theorem dX5_speed_6 : decode cX5_speed 6 = .ok (.ifCond .ne 5, 3) := by decide +kernel
theorem dX5_speed_9 : decode cX5_speed 9 = .ok (.iconst (-1), 1) := by decide +kernel
theorem dX5_speed_10 : decode cX5_speed 10 = .ok (.ireturn, 1) := by decide +kernel
theorem dX5_speed_11 : decode cX5_speed 11 = .ok (.aload_n 0, 1) := by decide +kernel
theorem dX5_speed_12 : decode cX5_speed 12 = .ok (.iload_n 1, 1) := by decide +kernel
theorem dX5_speed_13 : decode cX5_speed 13 = .ok (.invokevirtual 175, 3) := by decide +kernel
theorem dX5_speed_16 : decode cX5_speed 16 = .ok (.iload_n 2, 1) := by decide +kernel
theorem dX5_speed_17 : decode cX5_speed 17 = .ok (.iconst 1, 1) := by decide +kernel
theorem dX5_speed_18 : decode cX5_speed 18 = .ok (.iadd, 1) := by decide +kernel
theorem dX5_speed_19 : decode cX5_speed 19 = .ok (.istore_n 3, 1) := by decide +kernel
theorem dX5_speed_20 : decode cX5_speed 20 = .ok (.iload_n 3, 1) := by decide +kernel
theorem dX5_speed_21 : decode cX5_speed 21 = .ok (.aload_n 0, 1) := by decide +kernel
theorem dX5_speed_22 : decode cX5_speed 22 = .ok (.getfield 47, 3) := by decide +kernel
theorem dX5_speed_25 : decode cX5_speed 25 = .ok (.iload_n 1, 1) := by decide +kernel
theorem dX5_speed_26 : decode cX5_speed 26 = .ok (.iaload, 1) := by decide +kernel
theorem dX5_speed_27 : decode cX5_speed 27 = .ok (.if_icmp .ge 20, 3) := by decide +kernel
theorem dX5_speed_30 : decode cX5_speed 30 = .ok (.aload_n 0, 1) := by decide +kernel
theorem dX5_speed_31 : decode cX5_speed 31 = .ok (.getfield 81, 3) := by decide +kernel
theorem dX5_speed_34 : decode cX5_speed 34 = .ok (.iload_n 3, 1) := by decide +kernel
theorem dX5_speed_35 : decode cX5_speed 35 = .ok (.iaload, 1) := by decide +kernel
theorem dX5_speed_36 : decode cX5_speed 36 = .ok (.bipush (-5), 2) := by decide +kernel
theorem dX5_speed_38 : decode cX5_speed 38 = .ok (.if_icmp .ne 9, 3) := by decide +kernel
theorem dX5_speed_41 : decode cX5_speed 41 = .ok (.iinc 3 1, 3) := by decide +kernel
theorem dX5_speed_44 : decode cX5_speed 44 = .ok (.goto (-24), 3) := by decide +kernel
theorem dX5_speed_47 : decode cX5_speed 47 = .ok (.aload_n 0, 1) := by decide +kernel
theorem dX5_speed_48 : decode cX5_speed 48 = .ok (.getfield 81, 3) := by decide +kernel
theorem dX5_speed_51 : decode cX5_speed 51 = .ok (.iload_n 2, 1) := by decide +kernel
theorem dX5_speed_52 : decode cX5_speed 52 = .ok (.iaload, 1) := by decide +kernel
theorem dX5_speed_53 : decode cX5_speed 53 = .ok (.bipush (-5), 2) := by decide +kernel
theorem dX5_speed_55 : decode cX5_speed 55 = .ok (.if_icmp .eq 13, 3) := by decide +kernel
theorem dX5_speed_58 : decode cX5_speed 58 = .ok (.iload_n 3, 1) := by decide +kernel
theorem dX5_speed_59 : decode cX5_speed 59 = .ok (.aload_n 0, 1) := by decide +kernel
theorem dX5_speed_60 : decode cX5_speed 60 = .ok (.getfield 47, 3) := by decide +kernel
theorem dX5_speed_63 : decode cX5_speed 63 = .ok (.iload_n 1, 1) := by decide +kernel
theorem dX5_speed_64 : decode cX5_speed 64 = .ok (.iaload, 1) := by decide +kernel
theorem dX5_speed_65 : decode cX5_speed 65 = .ok (.if_icmp .lt 6, 3) := by decide +kernel
theorem dX5_speed_68 : decode cX5_speed 68 = .ok (.bipush (-3), 2) := by decide +kernel
theorem dX5_speed_70 : decode cX5_speed 70 = .ok (.ireturn, 1) := by decide +kernel
theorem dX5_speed_71 : decode cX5_speed 71 = .ok (.aload_n 0, 1) := by decide +kernel
theorem dX5_speed_72 : decode cX5_speed 72 = .ok (.getfield 60, 3) := by decide +kernel
theorem dX5_speed_75 : decode cX5_speed 75 = .ok (.sipush 150, 3) := by decide +kernel
theorem dX5_speed_78 : decode cX5_speed 78 = .ok (.aload_n 0, 1) := by decide +kernel
theorem dX5_speed_79 : decode cX5_speed 79 = .ok (.getfield 81, 3) := by decide +kernel
theorem dX5_speed_82 : decode cX5_speed 82 = .ok (.iload_n 2, 1) := by decide +kernel
theorem dX5_speed_83 : decode cX5_speed 83 = .ok (.iaload, 1) := by decide +kernel
theorem dX5_speed_84 : decode cX5_speed 84 = .ok (.imul, 1) := by decide +kernel
theorem dX5_speed_85 : decode cX5_speed 85 = .ok (.aload_n 0, 1) := by decide +kernel
theorem dX5_speed_86 : decode cX5_speed 86 = .ok (.getfield 81, 3) := by decide +kernel
theorem dX5_speed_89 : decode cX5_speed 89 = .ok (.iload_n 3, 1) := by decide +kernel
theorem dX5_speed_90 : decode cX5_speed 90 = .ok (.iaload, 1) := by decide +kernel
theorem dX5_speed_91 : decode cX5_speed 91 = .ok (.iadd, 1) := by decide +kernel
theorem dX5_speed_92 : decode cX5_speed 92 = .ok (.iaload, 1) := by decide +kernel
theorem dX5_speed_93 : decode cX5_speed 93 = .ok (.iconst 4, 1) := by decide +kernel
theorem dX5_speed_94 : decode cX5_speed 94 = .ok (.aload_n 0, 1) := by decide +kernel
theorem dX5_speed_95 : decode cX5_speed 95 = .ok (.getfield 41, 3) := by decide +kernel
theorem dX5_speed_98 : decode cX5_speed 98 = .ok (.bipush 20, 2) := by decide +kernel
theorem dX5_speed_100 : decode cX5_speed 100 = .ok (.iload_n 1, 1) := by decide +kernel
theorem dX5_speed_101 : decode cX5_speed 101 = .ok (.imul, 1) := by decide +kernel
theorem dX5_speed_102 : decode cX5_speed 102 = .ok (.iload_n 3, 1) := by decide +kernel
theorem dX5_speed_103 : decode cX5_speed 103 = .ok (.iadd, 1) := by decide +kernel
theorem dX5_speed_104 : decode cX5_speed 104 = .ok (.iaload, 1) := by decide +kernel
theorem dX5_speed_105 : decode cX5_speed 105 = .ok (.aload_n 0, 1) := by decide +kernel
theorem dX5_speed_106 : decode cX5_speed 106 = .ok (.getfield 41, 3) := by decide +kernel
theorem dX5_speed_109 : decode cX5_speed 109 = .ok (.bipush 20, 2) := by decide +kernel
theorem dX5_speed_111 : decode cX5_speed 111 = .ok (.iload_n 1, 1) := by decide +kernel
theorem dX5_speed_112 : decode cX5_speed 112 = .ok (.imul, 1) := by decide +kernel
theorem dX5_speed_113 : decode cX5_speed 113 = .ok (.iload_n 2, 1) := by decide +kernel
theorem dX5_speed_114 : decode cX5_speed 114 = .ok (.iadd, 1) := by decide +kernel
theorem dX5_speed_115 : decode cX5_speed 115 = .ok (.iaload, 1) := by decide +kernel
theorem dX5_speed_116 : decode cX5_speed 116 = .ok (.isub, 1) := by decide +kernel
theorem dX5_speed_117 : decode cX5_speed 117 = .ok (.imul, 1) := by decide +kernel
theorem dX5_speed_118 : decode cX5_speed 118 = .ok (.idiv, 1) := by decide +kernel
theorem dX5_speed_119 : decode cX5_speed 119 = .ok (.ireturn, 1) := by decide +kernel
theorem dX5_against_0 : decode cX5_against 0 = .ok (.aload_n 0, 1) := by decide +kernel
theorem dX5_against_1 : decode cX5_against 1 = .ok (.iload_n 1, 1) := by decide +kernel
theorem dX5_against_2 : decode cX5_against 2 = .ok (.invokevirtual 105, 3) := by decide +kernel
theorem dX5_against_5 : decode cX5_against 5 = .ok (.ifCond .ne 5, 3) := by decide +kernel
theorem dX5_against_8 : decode cX5_against 8 = .ok (.iconst (-1), 1) := by decide +kernel
theorem dX5_against_9 : decode cX5_against 9 = .ok (.ireturn, 1) := by decide +kernel
theorem dX5_against_10 : decode cX5_against 10 = .ok (.aload_n 0, 1) := by decide +kernel
theorem dX5_against_11 : decode cX5_against 11 = .ok (.getfield 25, 3) := by decide +kernel
theorem dX5_against_14 : decode cX5_against 14 = .ok (.iload_n 1, 1) := by decide +kernel
theorem dX5_against_15 : decode cX5_against 15 = .ok (.iaload, 1) := by decide +kernel
theorem dX5_against_16 : decode cX5_against 16 = .ok (.iconst 1, 1) := by decide +kernel
theorem dX5_against_17 : decode cX5_against 17 = .ok (.if_icmp .eq 6, 3) := by decide +kernel
theorem dX5_against_20 : decode cX5_against 20 = .ok (.bipush (-3), 2) := by decide +kernel
theorem dX5_against_22 : decode cX5_against 22 = .ok (.ireturn, 1) := by decide +kernel
theorem dX5_against_23 : decode cX5_against 23 = .ok (.iconst 0, 1) := by decide +kernel
theorem dX5_against_24 : decode cX5_against 24 = .ok (.istore_n 2, 1) := by decide +kernel
theorem dX5_against_25 : decode cX5_against 25 = .ok (.iconst 0, 1) := by decide +kernel
theorem dX5_against_26 : decode cX5_against 26 = .ok (.istore_n 3, 1) := by decide +kernel
theorem dX5_against_27 : decode cX5_against 27 = .ok (.iload_n 3, 1) := by decide +kernel
theorem dX5_against_28 : decode cX5_against 28 = .ok (.aload_n 0, 1) := by decide +kernel
theorem dX5_against_29 : decode cX5_against 29 = .ok (.getfield 141, 3) := by decide +kernel
theorem dX5_against_32 : decode cX5_against 32 = .ok (.if_icmp .ge 66, 3) := by decide +kernel
theorem dX5_against_35 : decode cX5_against 35 = .ok (.aload_n 0, 1) := by decide +kernel
theorem dX5_against_36 : decode cX5_against 36 = .ok (.getfield 25, 3) := by decide +kernel
theorem dX5_against_39 : decode cX5_against 39 = .ok (.iload_n 1, 1) := by decide +kernel
theorem dX5_against_40 : decode cX5_against 40 = .ok (.iconst 1, 1) := by decide +kernel
theorem dX5_against_41 : decode cX5_against 41 = .ok (.iastore, 1) := by decide +kernel
theorem dX5_against_42 : decode cX5_against 42 = .ok (.aload_n 0, 1) := by decide +kernel
theorem dX5_against_43 : decode cX5_against 43 = .ok (.iconst 0, 1) := by decide +kernel
theorem dX5_against_44 : decode cX5_against 44 = .ok (.putfield 101, 3) := by decide +kernel
theorem dX5_against_47 : decode cX5_against 47 = .ok (.aload_n 0, 1) := by decide +kernel
theorem dX5_against_48 : decode cX5_against 48 = .ok (.iload_n 3, 1) := by decide +kernel
theorem dX5_against_49 : decode cX5_against 49 = .ok (.invokevirtual 175, 3) := by decide +kernel
theorem dX5_against_52 : decode cX5_against 52 = .ok (.aload_n 0, 1) := by decide +kernel
theorem dX5_against_53 : decode cX5_against 53 = .ok (.getfield 169, 3) := by decide +kernel
theorem dX5_against_56 : decode cX5_against 56 = .ok (.istore 4, 2) := by decide +kernel
theorem dX5_against_58 : decode cX5_against 58 = .ok (.aload_n 0, 1) := by decide +kernel
theorem dX5_against_59 : decode cX5_against 59 = .ok (.getfield 25, 3) := by decide +kernel
theorem dX5_against_62 : decode cX5_against 62 = .ok (.iload_n 1, 1) := by decide +kernel
theorem dX5_against_63 : decode cX5_against 63 = .ok (.iconst 0, 1) := by decide +kernel
theorem dX5_against_64 : decode cX5_against 64 = .ok (.iastore, 1) := by decide +kernel
theorem dX5_against_65 : decode cX5_against 65 = .ok (.aload_n 0, 1) := by decide +kernel
theorem dX5_against_66 : decode cX5_against 66 = .ok (.iconst 0, 1) := by decide +kernel
theorem dX5_against_67 : decode cX5_against 67 = .ok (.putfield 101, 3) := by decide +kernel
theorem dX5_against_70 : decode cX5_against 70 = .ok (.aload_n 0, 1) := by decide +kernel
theorem dX5_against_71 : decode cX5_against 71 = .ok (.iload_n 3, 1) := by decide +kernel
theorem dX5_against_72 : decode cX5_against 72 = .ok (.invokevirtual 175, 3) := by decide +kernel
theorem dX5_against_75 : decode cX5_against 75 = .ok (.iload_n 2, 1) := by decide +kernel
theorem dX5_against_76 : decode cX5_against 76 = .ok (.aload_n 0, 1) := by decide +kernel
theorem dX5_against_77 : decode cX5_against 77 = .ok (.getfield 169, 3) := by decide +kernel
theorem dX5_against_80 : decode cX5_against 80 = .ok (.iload 4, 2) := by decide +kernel
theorem dX5_against_82 : decode cX5_against 82 = .ok (.if_icmp .ge 7, 3) := by decide +kernel
theorem dX5_against_85 : decode cX5_against 85 = .ok (.iconst 1, 1) := by decide +kernel
theorem dX5_against_86 : decode cX5_against 86 = .ok (.goto 4, 3) := by decide +kernel
theorem dX5_against_89 : decode cX5_against 89 = .ok (.iconst 0, 1) := by decide +kernel
theorem dX5_against_90 : decode cX5_against 90 = .ok (.iadd, 1) := by decide +kernel
theorem dX5_against_91 : decode cX5_against 91 = .ok (.istore_n 2, 1) := by decide +kernel
theorem dX5_against_92 : decode cX5_against 92 = .ok (.iinc 3 1, 3) := by decide +kernel
theorem dX5_against_95 : decode cX5_against 95 = .ok (.goto (-68), 3) := by decide +kernel
theorem dX5_against_98 : decode cX5_against 98 = .ok (.aload_n 0, 1) := by decide +kernel
theorem dX5_against_99 : decode cX5_against 99 = .ok (.getfield 25, 3) := by decide +kernel
theorem dX5_against_102 : decode cX5_against 102 = .ok (.iload_n 1, 1) := by decide +kernel
theorem dX5_against_103 : decode cX5_against 103 = .ok (.iconst 1, 1) := by decide +kernel
theorem dX5_against_104 : decode cX5_against 104 = .ok (.iastore, 1) := by decide +kernel
theorem dX5_against_105 : decode cX5_against 105 = .ok (.aload_n 0, 1) := by decide +kernel
theorem dX5_against_106 : decode cX5_against 106 = .ok (.iconst 0, 1) := by decide +kernel
theorem dX5_against_107 : decode cX5_against 107 = .ok (.putfield 101, 3) := by decide +kernel
theorem dX5_against_110 : decode cX5_against 110 = .ok (.iload_n 2, 1) := by decide +kernel
theorem dX5_against_111 : decode cX5_against 111 = .ok (.ireturn, 1) := by decide +kernel
theorem dX5_count_0 : decode cX5_count 0 = .ok (.iconst 0, 1) := by decide +kernel
theorem dX5_count_1 : decode cX5_count 1 = .ok (.istore_n 2, 1) := by decide +kernel
theorem dX5_count_2 : decode cX5_count 2 = .ok (.iconst 0, 1) := by decide +kernel
theorem dX5_count_3 : decode cX5_count 3 = .ok (.istore_n 3, 1) := by decide +kernel
theorem dX5_count_4 : decode cX5_count 4 = .ok (.iload_n 3, 1) := by decide +kernel
theorem dX5_count_5 : decode cX5_count 5 = .ok (.aload_n 0, 1) := by decide +kernel
theorem dX5_count_6 : decode cX5_count 6 = .ok (.getfield 141, 3) := by decide +kernel
theorem dX5_count_9 : decode cX5_count 9 = .ok (.if_icmp .ge 18, 3) := by decide +kernel
theorem dX5_count_12 : decode cX5_count 12 = .ok (.iload_n 2, 1) := by decide +kernel
theorem dX5_count_13 : decode cX5_count 13 = .ok (.aload_n 0, 1) := by decide +kernel
theorem dX5_count_14 : decode cX5_count 14 = .ok (.getfield 47, 3) := by decide +kernel
theorem dX5_count_17 : decode cX5_count 17 = .ok (.iload_n 3, 1) := by decide +kernel
theorem dX5_count_18 : decode cX5_count 18 = .ok (.iaload, 1) := by decide +kernel
theorem dX5_count_19 : decode cX5_count 19 = .ok (.iadd, 1) := by decide +kernel
theorem dX5_count_20 : decode cX5_count 20 = .ok (.istore_n 2, 1) := by decide +kernel
theorem dX5_count_21 : decode cX5_count 21 = .ok (.iinc 3 1, 3) := by decide +kernel
theorem dX5_count_24 : decode cX5_count 24 = .ok (.goto (-20), 3) := by decide +kernel
theorem dX5_count_27 : decode cX5_count 27 = .ok (.iload_n 1, 1) := by decide +kernel
theorem dX5_count_28 : decode cX5_count 28 = .ok (.tableswitch 58 0 4 #[36, 41, 46, 51, 53], 36) := by decide +kernel
theorem dX5_count_64 : decode cX5_count 64 = .ok (.aload_n 0, 1) := by decide +kernel
theorem dX5_count_65 : decode cX5_count 65 = .ok (.getfield 91, 3) := by decide +kernel
theorem dX5_count_68 : decode cX5_count 68 = .ok (.ireturn, 1) := by decide +kernel
theorem dX5_count_69 : decode cX5_count 69 = .ok (.aload_n 0, 1) := by decide +kernel
theorem dX5_count_70 : decode cX5_count 70 = .ok (.getfield 94, 3) := by decide +kernel
theorem dX5_count_73 : decode cX5_count 73 = .ok (.ireturn, 1) := by decide +kernel
theorem dX5_count_74 : decode cX5_count 74 = .ok (.aload_n 0, 1) := by decide +kernel
theorem dX5_count_75 : decode cX5_count 75 = .ok (.getfield 141, 3) := by decide +kernel
theorem dX5_count_78 : decode cX5_count 78 = .ok (.ireturn, 1) := by decide +kernel
theorem dX5_count_79 : decode cX5_count 79 = .ok (.iload_n 2, 1) := by decide +kernel
theorem dX5_count_80 : decode cX5_count 80 = .ok (.ireturn, 1) := by decide +kernel
theorem dX5_count_81 : decode cX5_count 81 = .ok (.aload_n 0, 1) := by decide +kernel
theorem dX5_count_82 : decode cX5_count 82 = .ok (.getfield 178, 3) := by decide +kernel
theorem dX5_count_85 : decode cX5_count 85 = .ok (.ireturn, 1) := by decide +kernel
theorem dX5_count_86 : decode cX5_count 86 = .ok (.iconst (-1), 1) := by decide +kernel
theorem dX5_count_87 : decode cX5_count 87 = .ok (.ireturn, 1) := by decide +kernel
end
section
theorem dL_law_0 : decode cL_law 0 = .ok (.new 7, 3) := by decide +kernel
theorem dL_law_3 : decode cL_law 3 = .ok (.dup, 1) := by decide +kernel
theorem dL_law_4 : decode cL_law 4 = .ok (.invokespecial 9, 3) := by decide +kernel
theorem dL_law_7 : decode cL_law 7 = .ok (.astore_n 1, 1) := by decide +kernel
theorem dL_law_8 : decode cL_law 8 = .ok (.new 10, 3) := by decide +kernel
theorem dL_law_11 : decode cL_law 11 = .ok (.dup, 1) := by decide +kernel
theorem dL_law_12 : decode cL_law 12 = .ok (.invokespecial 12, 3) := by decide +kernel
theorem dL_law_15 : decode cL_law 15 = .ok (.astore_n 2, 1) := by decide +kernel
theorem dL_law_16 : decode cL_law 16 = .ok (.iconst 0, 1) := by decide +kernel
theorem dL_law_17 : decode cL_law 17 = .ok (.istore_n 3, 1) := by decide +kernel
theorem dL_law_18 : decode cL_law 18 = .ok (.iload_n 3, 1) := by decide +kernel
theorem dL_law_19 : decode cL_law 19 = .ok (.aload_n 0, 1) := by decide +kernel
theorem dL_law_20 : decode cL_law 20 = .ok (.arraylength, 1) := by decide +kernel
theorem dL_law_21 : decode cL_law 21 = .ok (.iconst 5, 1) := by decide +kernel
theorem dL_law_22 : decode cL_law 22 = .ok (.isub, 1) := by decide +kernel
theorem dL_law_23 : decode cL_law 23 = .ok (.if_icmp .gt 751, 3) := by decide +kernel
theorem dL_law_26 : decode cL_law 26 = .ok (.aload_n 0, 1) := by decide +kernel
theorem dL_law_27 : decode cL_law 27 = .ok (.iload_n 3, 1) := by decide +kernel
theorem dL_law_28 : decode cL_law 28 = .ok (.iaload, 1) := by decide +kernel
theorem dL_law_29 : decode cL_law 29 = .ok (.bipush 31, 2) := by decide +kernel
theorem dL_law_31 : decode cL_law 31 = .ok (.iand, 1) := by decide +kernel
theorem dL_law_32 : decode cL_law 32 = .ok (.tableswitch 736 0 19 #[96, 129, 182, 225, 258, 291, 304, 357, 380, 413, 456, 499, 522, 555, 578, 601, 634, 657, 690, 713], 96) := by decide +kernel
theorem dL_law_128 : decode cL_law 128 = .ok (.aload_n 1, 1) := by decide +kernel
theorem dL_law_129 : decode cL_law 129 = .ok (.aload_n 0, 1) := by decide +kernel
theorem dL_law_130 : decode cL_law 130 = .ok (.iload_n 3, 1) := by decide +kernel
theorem dL_law_131 : decode cL_law 131 = .ok (.iconst 1, 1) := by decide +kernel
theorem dL_law_132 : decode cL_law 132 = .ok (.iadd, 1) := by decide +kernel
theorem dL_law_133 : decode cL_law 133 = .ok (.iaload, 1) := by decide +kernel
theorem dL_law_134 : decode cL_law 134 = .ok (.aload_n 0, 1) := by decide +kernel
theorem dL_law_135 : decode cL_law 135 = .ok (.iload_n 3, 1) := by decide +kernel
theorem dL_law_136 : decode cL_law 136 = .ok (.iconst 2, 1) := by decide +kernel
theorem dL_law_137 : decode cL_law 137 = .ok (.iadd, 1) := by decide +kernel
theorem dL_law_138 : decode cL_law 138 = .ok (.iaload, 1) := by decide +kernel
theorem dL_law_139 : decode cL_law 139 = .ok (.invokevirtual 13, 3) := by decide +kernel
theorem dL_law_142 : decode cL_law 142 = .ok (.aload_n 2, 1) := by decide +kernel
theorem dL_law_143 : decode cL_law 143 = .ok (.aload_n 0, 1) := by decide +kernel
theorem dL_law_144 : decode cL_law 144 = .ok (.iload_n 3, 1) := by decide +kernel
theorem dL_law_145 : decode cL_law 145 = .ok (.iconst 1, 1) := by decide +kernel
theorem dL_law_146 : decode cL_law 146 = .ok (.iadd, 1) := by decide +kernel
theorem dL_law_147 : decode cL_law 147 = .ok (.iaload, 1) := by decide +kernel
theorem dL_law_148 : decode cL_law 148 = .ok (.aload_n 0, 1) := by decide +kernel
theorem dL_law_149 : decode cL_law 149 = .ok (.iload_n 3, 1) := by decide +kernel
theorem dL_law_150 : decode cL_law 150 = .ok (.iconst 2, 1) := by decide +kernel
theorem dL_law_151 : decode cL_law 151 = .ok (.iadd, 1) := by decide +kernel
theorem dL_law_152 : decode cL_law 152 = .ok (.iaload, 1) := by decide +kernel
theorem dL_law_153 : decode cL_law 153 = .ok (.invokevirtual 17, 3) := by decide +kernel
theorem dL_law_156 : decode cL_law 156 = .ok (.if_icmp .eq 612, 3) := by decide +kernel
theorem dL_law_159 : decode cL_law 159 = .ok (.iconst 0, 1) := by decide +kernel
theorem dL_law_160 : decode cL_law 160 = .ok (.ireturn, 1) := by decide +kernel
theorem dL_law_161 : decode cL_law 161 = .ok (.aload_n 1, 1) := by decide +kernel
theorem dL_law_162 : decode cL_law 162 = .ok (.aload_n 0, 1) := by decide +kernel
theorem dL_law_163 : decode cL_law 163 = .ok (.iload_n 3, 1) := by decide +kernel
theorem dL_law_164 : decode cL_law 164 = .ok (.iconst 1, 1) := by decide +kernel
theorem dL_law_165 : decode cL_law 165 = .ok (.iadd, 1) := by decide +kernel
theorem dL_law_166 : decode cL_law 166 = .ok (.iaload, 1) := by decide +kernel
theorem dL_law_167 : decode cL_law 167 = .ok (.aload_n 0, 1) := by decide +kernel
theorem dL_law_168 : decode cL_law 168 = .ok (.iload_n 3, 1) := by decide +kernel
theorem dL_law_169 : decode cL_law 169 = .ok (.iconst 2, 1) := by decide +kernel
theorem dL_law_170 : decode cL_law 170 = .ok (.iadd, 1) := by decide +kernel
theorem dL_law_171 : decode cL_law 171 = .ok (.iaload, 1) := by decide +kernel
theorem dL_law_172 : decode cL_law 172 = .ok (.aload_n 0, 1) := by decide +kernel
theorem dL_law_173 : decode cL_law 173 = .ok (.iload_n 3, 1) := by decide +kernel
theorem dL_law_174 : decode cL_law 174 = .ok (.iconst 3, 1) := by decide +kernel
theorem dL_law_175 : decode cL_law 175 = .ok (.iadd, 1) := by decide +kernel
theorem dL_law_176 : decode cL_law 176 = .ok (.iaload, 1) := by decide +kernel
theorem dL_law_177 : decode cL_law 177 = .ok (.aload_n 0, 1) := by decide +kernel
theorem dL_law_178 : decode cL_law 178 = .ok (.iload_n 3, 1) := by decide +kernel
theorem dL_law_179 : decode cL_law 179 = .ok (.iconst 4, 1) := by decide +kernel
theorem dL_law_180 : decode cL_law 180 = .ok (.iadd, 1) := by decide +kernel
theorem dL_law_181 : decode cL_law 181 = .ok (.iaload, 1) := by decide +kernel
theorem dL_law_182 : decode cL_law 182 = .ok (.invokevirtual 18, 3) := by decide +kernel
theorem dL_law_185 : decode cL_law 185 = .ok (.aload_n 2, 1) := by decide +kernel
theorem dL_law_186 : decode cL_law 186 = .ok (.aload_n 0, 1) := by decide +kernel
theorem dL_law_187 : decode cL_law 187 = .ok (.iload_n 3, 1) := by decide +kernel
theorem dL_law_188 : decode cL_law 188 = .ok (.iconst 1, 1) := by decide +kernel
theorem dL_law_189 : decode cL_law 189 = .ok (.iadd, 1) := by decide +kernel
theorem dL_law_190 : decode cL_law 190 = .ok (.iaload, 1) := by decide +kernel
theorem dL_law_191 : decode cL_law 191 = .ok (.aload_n 0, 1) := by decide +kernel
theorem dL_law_192 : decode cL_law 192 = .ok (.iload_n 3, 1) := by decide +kernel
theorem dL_law_193 : decode cL_law 193 = .ok (.iconst 2, 1) := by decide +kernel
theorem dL_law_194 : decode cL_law 194 = .ok (.iadd, 1) := by decide +kernel
theorem dL_law_195 : decode cL_law 195 = .ok (.iaload, 1) := by decide +kernel
theorem dL_law_196 : decode cL_law 196 = .ok (.aload_n 0, 1) := by decide +kernel
theorem dL_law_197 : decode cL_law 197 = .ok (.iload_n 3, 1) := by decide +kernel
theorem dL_law_198 : decode cL_law 198 = .ok (.iconst 3, 1) := by decide +kernel
theorem dL_law_199 : decode cL_law 199 = .ok (.iadd, 1) := by decide +kernel
theorem dL_law_200 : decode cL_law 200 = .ok (.iaload, 1) := by decide +kernel
theorem dL_law_201 : decode cL_law 201 = .ok (.aload_n 0, 1) := by decide +kernel
theorem dL_law_202 : decode cL_law 202 = .ok (.iload_n 3, 1) := by decide +kernel
theorem dL_law_203 : decode cL_law 203 = .ok (.iconst 4, 1) := by decide +kernel
theorem dL_law_204 : decode cL_law 204 = .ok (.iadd, 1) := by decide +kernel
theorem dL_law_205 : decode cL_law 205 = .ok (.iaload, 1) := by decide +kernel
theorem dL_law_206 : decode cL_law 206 = .ok (.invokevirtual 22, 3) := by decide +kernel
theorem dL_law_209 : decode cL_law 209 = .ok (.if_icmp .eq 559, 3) := by decide +kernel
theorem dL_law_212 : decode cL_law 212 = .ok (.iconst 0, 1) := by decide +kernel
theorem dL_law_213 : decode cL_law 213 = .ok (.ireturn, 1) := by decide +kernel
theorem dL_law_214 : decode cL_law 214 = .ok (.aload_n 1, 1) := by decide +kernel
theorem dL_law_215 : decode cL_law 215 = .ok (.aload_n 0, 1) := by decide +kernel
theorem dL_law_216 : decode cL_law 216 = .ok (.iload_n 3, 1) := by decide +kernel
theorem dL_law_217 : decode cL_law 217 = .ok (.iconst 1, 1) := by decide +kernel
theorem dL_law_218 : decode cL_law 218 = .ok (.iadd, 1) := by decide +kernel
theorem dL_law_219 : decode cL_law 219 = .ok (.iaload, 1) := by decide +kernel
theorem dL_law_220 : decode cL_law 220 = .ok (.aload_n 0, 1) := by decide +kernel
theorem dL_law_221 : decode cL_law 221 = .ok (.iload_n 3, 1) := by decide +kernel
theorem dL_law_222 : decode cL_law 222 = .ok (.iconst 2, 1) := by decide +kernel
theorem dL_law_223 : decode cL_law 223 = .ok (.iadd, 1) := by decide +kernel
theorem dL_law_224 : decode cL_law 224 = .ok (.iaload, 1) := by decide +kernel
theorem dL_law_225 : decode cL_law 225 = .ok (.aload_n 0, 1) := by decide +kernel
theorem dL_law_226 : decode cL_law 226 = .ok (.iload_n 3, 1) := by decide +kernel
theorem dL_law_227 : decode cL_law 227 = .ok (.iconst 3, 1) := by decide +kernel
theorem dL_law_228 : decode cL_law 228 = .ok (.iadd, 1) := by decide +kernel
theorem dL_law_229 : decode cL_law 229 = .ok (.iaload, 1) := by decide +kernel
theorem dL_law_230 : decode cL_law 230 = .ok (.invokevirtual 23, 3) := by decide +kernel
theorem dL_law_233 : decode cL_law 233 = .ok (.aload_n 2, 1) := by decide +kernel
theorem dL_law_234 : decode cL_law 234 = .ok (.aload_n 0, 1) := by decide +kernel
theorem dL_law_235 : decode cL_law 235 = .ok (.iload_n 3, 1) := by decide +kernel
theorem dL_law_236 : decode cL_law 236 = .ok (.iconst 1, 1) := by decide +kernel
theorem dL_law_237 : decode cL_law 237 = .ok (.iadd, 1) := by decide +kernel
theorem dL_law_238 : decode cL_law 238 = .ok (.iaload, 1) := by decide +kernel
theorem dL_law_239 : decode cL_law 239 = .ok (.aload_n 0, 1) := by decide +kernel
theorem dL_law_240 : decode cL_law 240 = .ok (.iload_n 3, 1) := by decide +kernel
theorem dL_law_241 : decode cL_law 241 = .ok (.iconst 2, 1) := by decide +kernel
theorem dL_law_242 : decode cL_law 242 = .ok (.iadd, 1) := by decide +kernel
theorem dL_law_243 : decode cL_law 243 = .ok (.iaload, 1) := by decide +kernel
theorem dL_law_244 : decode cL_law 244 = .ok (.aload_n 0, 1) := by decide +kernel
theorem dL_law_245 : decode cL_law 245 = .ok (.iload_n 3, 1) := by decide +kernel
theorem dL_law_246 : decode cL_law 246 = .ok (.iconst 3, 1) := by decide +kernel
theorem dL_law_247 : decode cL_law 247 = .ok (.iadd, 1) := by decide +kernel
theorem dL_law_248 : decode cL_law 248 = .ok (.iaload, 1) := by decide +kernel
theorem dL_law_249 : decode cL_law 249 = .ok (.invokevirtual 27, 3) := by decide +kernel
theorem dL_law_252 : decode cL_law 252 = .ok (.if_icmp .eq 516, 3) := by decide +kernel
theorem dL_law_255 : decode cL_law 255 = .ok (.iconst 0, 1) := by decide +kernel
theorem dL_law_256 : decode cL_law 256 = .ok (.ireturn, 1) := by decide +kernel
theorem dL_law_257 : decode cL_law 257 = .ok (.aload_n 1, 1) := by decide +kernel
theorem dL_law_258 : decode cL_law 258 = .ok (.aload_n 0, 1) := by decide +kernel
theorem dL_law_259 : decode cL_law 259 = .ok (.iload_n 3, 1) := by decide +kernel
theorem dL_law_260 : decode cL_law 260 = .ok (.iconst 1, 1) := by decide +kernel
theorem dL_law_261 : decode cL_law 261 = .ok (.iadd, 1) := by decide +kernel
theorem dL_law_262 : decode cL_law 262 = .ok (.iaload, 1) := by decide +kernel
theorem dL_law_263 : decode cL_law 263 = .ok (.aload_n 0, 1) := by decide +kernel
theorem dL_law_264 : decode cL_law 264 = .ok (.iload_n 3, 1) := by decide +kernel
theorem dL_law_265 : decode cL_law 265 = .ok (.iconst 2, 1) := by decide +kernel
theorem dL_law_266 : decode cL_law 266 = .ok (.iadd, 1) := by decide +kernel
theorem dL_law_267 : decode cL_law 267 = .ok (.iaload, 1) := by decide +kernel
theorem dL_law_268 : decode cL_law 268 = .ok (.invokevirtual 28, 3) := by decide +kernel
theorem dL_law_271 : decode cL_law 271 = .ok (.aload_n 2, 1) := by decide +kernel
theorem dL_law_272 : decode cL_law 272 = .ok (.aload_n 0, 1) := by decide +kernel
theorem dL_law_273 : decode cL_law 273 = .ok (.iload_n 3, 1) := by decide +kernel
theorem dL_law_274 : decode cL_law 274 = .ok (.iconst 1, 1) := by decide +kernel
theorem dL_law_275 : decode cL_law 275 = .ok (.iadd, 1) := by decide +kernel
theorem dL_law_276 : decode cL_law 276 = .ok (.iaload, 1) := by decide +kernel
theorem dL_law_277 : decode cL_law 277 = .ok (.aload_n 0, 1) := by decide +kernel
theorem dL_law_278 : decode cL_law 278 = .ok (.iload_n 3, 1) := by decide +kernel
theorem dL_law_279 : decode cL_law 279 = .ok (.iconst 2, 1) := by decide +kernel
theorem dL_law_280 : decode cL_law 280 = .ok (.iadd, 1) := by decide +kernel
theorem dL_law_281 : decode cL_law 281 = .ok (.iaload, 1) := by decide +kernel
theorem dL_law_282 : decode cL_law 282 = .ok (.invokevirtual 31, 3) := by decide +kernel
theorem dL_law_285 : decode cL_law 285 = .ok (.if_icmp .eq 483, 3) := by decide +kernel
theorem dL_law_288 : decode cL_law 288 = .ok (.iconst 0, 1) := by decide +kernel
theorem dL_law_289 : decode cL_law 289 = .ok (.ireturn, 1) := by decide +kernel
theorem dL_law_290 : decode cL_law 290 = .ok (.aload_n 1, 1) := by decide +kernel
theorem dL_law_291 : decode cL_law 291 = .ok (.aload_n 0, 1) := by decide +kernel
theorem dL_law_292 : decode cL_law 292 = .ok (.iload_n 3, 1) := by decide +kernel
theorem dL_law_293 : decode cL_law 293 = .ok (.iconst 1, 1) := by decide +kernel
theorem dL_law_294 : decode cL_law 294 = .ok (.iadd, 1) := by decide +kernel
theorem dL_law_295 : decode cL_law 295 = .ok (.iaload, 1) := by decide +kernel
theorem dL_law_296 : decode cL_law 296 = .ok (.aload_n 0, 1) := by decide +kernel
theorem dL_law_297 : decode cL_law 297 = .ok (.iload_n 3, 1) := by decide +kernel
theorem dL_law_298 : decode cL_law 298 = .ok (.iconst 2, 1) := by decide +kernel
theorem dL_law_299 : decode cL_law 299 = .ok (.iadd, 1) := by decide +kernel
theorem dL_law_300 : decode cL_law 300 = .ok (.iaload, 1) := by decide +kernel
theorem dL_law_301 : decode cL_law 301 = .ok (.invokevirtual 32, 3) := by decide +kernel
theorem dL_law_304 : decode cL_law 304 = .ok (.aload_n 2, 1) := by decide +kernel
theorem dL_law_305 : decode cL_law 305 = .ok (.aload_n 0, 1) := by decide +kernel
theorem dL_law_306 : decode cL_law 306 = .ok (.iload_n 3, 1) := by decide +kernel
theorem dL_law_307 : decode cL_law 307 = .ok (.iconst 1, 1) := by decide +kernel
theorem dL_law_308 : decode cL_law 308 = .ok (.iadd, 1) := by decide +kernel
theorem dL_law_309 : decode cL_law 309 = .ok (.iaload, 1) := by decide +kernel
theorem dL_law_310 : decode cL_law 310 = .ok (.aload_n 0, 1) := by decide +kernel
theorem dL_law_311 : decode cL_law 311 = .ok (.iload_n 3, 1) := by decide +kernel
theorem dL_law_312 : decode cL_law 312 = .ok (.iconst 2, 1) := by decide +kernel
theorem dL_law_313 : decode cL_law 313 = .ok (.iadd, 1) := by decide +kernel
theorem dL_law_314 : decode cL_law 314 = .ok (.iaload, 1) := by decide +kernel
theorem dL_law_315 : decode cL_law 315 = .ok (.invokevirtual 35, 3) := by decide +kernel
theorem dL_law_318 : decode cL_law 318 = .ok (.if_icmp .eq 450, 3) := by decide +kernel
theorem dL_law_321 : decode cL_law 321 = .ok (.iconst 0, 1) := by decide +kernel
theorem dL_law_322 : decode cL_law 322 = .ok (.ireturn, 1) := by decide +kernel
theorem dL_law_323 : decode cL_law 323 = .ok (.aload_n 1, 1) := by decide +kernel
theorem dL_law_324 : decode cL_law 324 = .ok (.invokevirtual 36, 3) := by decide +kernel
theorem dL_law_327 : decode cL_law 327 = .ok (.aload_n 2, 1) := by decide +kernel
theorem dL_law_328 : decode cL_law 328 = .ok (.invokevirtual 40, 3) := by decide +kernel
theorem dL_law_331 : decode cL_law 331 = .ok (.if_icmp .eq 437, 3) := by decide +kernel
theorem dL_law_334 : decode cL_law 334 = .ok (.iconst 0, 1) := by decide +kernel
theorem dL_law_335 : decode cL_law 335 = .ok (.ireturn, 1) := by decide +kernel
theorem dL_law_336 : decode cL_law 336 = .ok (.aload_n 1, 1) := by decide +kernel
theorem dL_law_337 : decode cL_law 337 = .ok (.aload_n 0, 1) := by decide +kernel
theorem dL_law_338 : decode cL_law 338 = .ok (.iload_n 3, 1) := by decide +kernel
theorem dL_law_339 : decode cL_law 339 = .ok (.iconst 1, 1) := by decide +kernel
theorem dL_law_340 : decode cL_law 340 = .ok (.iadd, 1) := by decide +kernel
theorem dL_law_341 : decode cL_law 341 = .ok (.iaload, 1) := by decide +kernel
theorem dL_law_342 : decode cL_law 342 = .ok (.aload_n 0, 1) := by decide +kernel
theorem dL_law_343 : decode cL_law 343 = .ok (.iload_n 3, 1) := by decide +kernel
theorem dL_law_344 : decode cL_law 344 = .ok (.iconst 2, 1) := by decide +kernel
theorem dL_law_345 : decode cL_law 345 = .ok (.iadd, 1) := by decide +kernel
theorem dL_law_346 : decode cL_law 346 = .ok (.iaload, 1) := by decide +kernel
theorem dL_law_347 : decode cL_law 347 = .ok (.aload_n 0, 1) := by decide +kernel
theorem dL_law_348 : decode cL_law 348 = .ok (.iload_n 3, 1) := by decide +kernel
theorem dL_law_349 : decode cL_law 349 = .ok (.iconst 3, 1) := by decide +kernel
theorem dL_law_350 : decode cL_law 350 = .ok (.iadd, 1) := by decide +kernel
theorem dL_law_351 : decode cL_law 351 = .ok (.iaload, 1) := by decide +kernel
theorem dL_law_352 : decode cL_law 352 = .ok (.aload_n 0, 1) := by decide +kernel
theorem dL_law_353 : decode cL_law 353 = .ok (.iload_n 3, 1) := by decide +kernel
theorem dL_law_354 : decode cL_law 354 = .ok (.iconst 4, 1) := by decide +kernel
theorem dL_law_355 : decode cL_law 355 = .ok (.iadd, 1) := by decide +kernel
theorem dL_law_356 : decode cL_law 356 = .ok (.iaload, 1) := by decide +kernel
theorem dL_law_357 : decode cL_law 357 = .ok (.invokevirtual 41, 3) := by decide +kernel
theorem dL_law_360 : decode cL_law 360 = .ok (.aload_n 2, 1) := by decide +kernel
theorem dL_law_361 : decode cL_law 361 = .ok (.aload_n 0, 1) := by decide +kernel
theorem dL_law_362 : decode cL_law 362 = .ok (.iload_n 3, 1) := by decide +kernel
theorem dL_law_363 : decode cL_law 363 = .ok (.iconst 1, 1) := by decide +kernel
theorem dL_law_364 : decode cL_law 364 = .ok (.iadd, 1) := by decide +kernel
theorem dL_law_365 : decode cL_law 365 = .ok (.iaload, 1) := by decide +kernel
theorem dL_law_366 : decode cL_law 366 = .ok (.aload_n 0, 1) := by decide +kernel
theorem dL_law_367 : decode cL_law 367 = .ok (.iload_n 3, 1) := by decide +kernel
theorem dL_law_368 : decode cL_law 368 = .ok (.iconst 2, 1) := by decide +kernel
theorem dL_law_369 : decode cL_law 369 = .ok (.iadd, 1) := by decide +kernel
theorem dL_law_370 : decode cL_law 370 = .ok (.iaload, 1) := by decide +kernel
theorem dL_law_371 : decode cL_law 371 = .ok (.aload_n 0, 1) := by decide +kernel
theorem dL_law_372 : decode cL_law 372 = .ok (.iload_n 3, 1) := by decide +kernel
theorem dL_law_373 : decode cL_law 373 = .ok (.iconst 3, 1) := by decide +kernel
theorem dL_law_374 : decode cL_law 374 = .ok (.iadd, 1) := by decide +kernel
theorem dL_law_375 : decode cL_law 375 = .ok (.iaload, 1) := by decide +kernel
theorem dL_law_376 : decode cL_law 376 = .ok (.aload_n 0, 1) := by decide +kernel
theorem dL_law_377 : decode cL_law 377 = .ok (.iload_n 3, 1) := by decide +kernel
theorem dL_law_378 : decode cL_law 378 = .ok (.iconst 4, 1) := by decide +kernel
theorem dL_law_379 : decode cL_law 379 = .ok (.iadd, 1) := by decide +kernel
theorem dL_law_380 : decode cL_law 380 = .ok (.iaload, 1) := by decide +kernel
theorem dL_law_381 : decode cL_law 381 = .ok (.invokevirtual 44, 3) := by decide +kernel
theorem dL_law_384 : decode cL_law 384 = .ok (.if_icmp .eq 384, 3) := by decide +kernel
theorem dL_law_387 : decode cL_law 387 = .ok (.iconst 0, 1) := by decide +kernel
theorem dL_law_388 : decode cL_law 388 = .ok (.ireturn, 1) := by decide +kernel
theorem dL_law_389 : decode cL_law 389 = .ok (.aload_n 1, 1) := by decide +kernel
theorem dL_law_390 : decode cL_law 390 = .ok (.aload_n 0, 1) := by decide +kernel
theorem dL_law_391 : decode cL_law 391 = .ok (.iload_n 3, 1) := by decide +kernel
theorem dL_law_392 : decode cL_law 392 = .ok (.iconst 1, 1) := by decide +kernel
theorem dL_law_393 : decode cL_law 393 = .ok (.iadd, 1) := by decide +kernel
theorem dL_law_394 : decode cL_law 394 = .ok (.iaload, 1) := by decide +kernel
theorem dL_law_395 : decode cL_law 395 = .ok (.invokevirtual 45, 3) := by decide +kernel
theorem dL_law_398 : decode cL_law 398 = .ok (.aload_n 2, 1) := by decide +kernel
theorem dL_law_399 : decode cL_law 399 = .ok (.aload_n 0, 1) := by decide +kernel
theorem dL_law_400 : decode cL_law 400 = .ok (.iload_n 3, 1) := by decide +kernel
theorem dL_law_401 : decode cL_law 401 = .ok (.iconst 1, 1) := by decide +kernel
theorem dL_law_402 : decode cL_law 402 = .ok (.iadd, 1) := by decide +kernel
theorem dL_law_403 : decode cL_law 403 = .ok (.iaload, 1) := by decide +kernel
theorem dL_law_404 : decode cL_law 404 = .ok (.invokevirtual 49, 3) := by decide +kernel
theorem dL_law_407 : decode cL_law 407 = .ok (.if_icmp .eq 361, 3) := by decide +kernel
theorem dL_law_410 : decode cL_law 410 = .ok (.iconst 0, 1) := by decide +kernel
theorem dL_law_411 : decode cL_law 411 = .ok (.ireturn, 1) := by decide +kernel
theorem dL_law_412 : decode cL_law 412 = .ok (.aload_n 1, 1) := by decide +kernel
theorem dL_law_413 : decode cL_law 413 = .ok (.aload_n 0, 1) := by decide +kernel
theorem dL_law_414 : decode cL_law 414 = .ok (.iload_n 3, 1) := by decide +kernel
theorem dL_law_415 : decode cL_law 415 = .ok (.iconst 1, 1) := by decide +kernel
theorem dL_law_416 : decode cL_law 416 = .ok (.iadd, 1) := by decide +kernel
theorem dL_law_417 : decode cL_law 417 = .ok (.iaload, 1) := by decide +kernel
theorem dL_law_418 : decode cL_law 418 = .ok (.aload_n 0, 1) := by decide +kernel
theorem dL_law_419 : decode cL_law 419 = .ok (.iload_n 3, 1) := by decide +kernel
theorem dL_law_420 : decode cL_law 420 = .ok (.iconst 2, 1) := by decide +kernel
theorem dL_law_421 : decode cL_law 421 = .ok (.iadd, 1) := by decide +kernel
theorem dL_law_422 : decode cL_law 422 = .ok (.iaload, 1) := by decide +kernel
theorem dL_law_423 : decode cL_law 423 = .ok (.invokevirtual 50, 3) := by decide +kernel
theorem dL_law_426 : decode cL_law 426 = .ok (.aload_n 2, 1) := by decide +kernel
theorem dL_law_427 : decode cL_law 427 = .ok (.aload_n 0, 1) := by decide +kernel
theorem dL_law_428 : decode cL_law 428 = .ok (.iload_n 3, 1) := by decide +kernel
theorem dL_law_429 : decode cL_law 429 = .ok (.iconst 1, 1) := by decide +kernel
theorem dL_law_430 : decode cL_law 430 = .ok (.iadd, 1) := by decide +kernel
theorem dL_law_431 : decode cL_law 431 = .ok (.iaload, 1) := by decide +kernel
theorem dL_law_432 : decode cL_law 432 = .ok (.aload_n 0, 1) := by decide +kernel
theorem dL_law_433 : decode cL_law 433 = .ok (.iload_n 3, 1) := by decide +kernel
theorem dL_law_434 : decode cL_law 434 = .ok (.iconst 2, 1) := by decide +kernel
theorem dL_law_435 : decode cL_law 435 = .ok (.iadd, 1) := by decide +kernel
theorem dL_law_436 : decode cL_law 436 = .ok (.iaload, 1) := by decide +kernel
theorem dL_law_437 : decode cL_law 437 = .ok (.invokevirtual 53, 3) := by decide +kernel
theorem dL_law_440 : decode cL_law 440 = .ok (.if_icmp .eq 328, 3) := by decide +kernel
theorem dL_law_443 : decode cL_law 443 = .ok (.iconst 0, 1) := by decide +kernel
theorem dL_law_444 : decode cL_law 444 = .ok (.ireturn, 1) := by decide +kernel
theorem dL_law_445 : decode cL_law 445 = .ok (.aload_n 1, 1) := by decide +kernel
theorem dL_law_446 : decode cL_law 446 = .ok (.aload_n 0, 1) := by decide +kernel
theorem dL_law_447 : decode cL_law 447 = .ok (.iload_n 3, 1) := by decide +kernel
theorem dL_law_448 : decode cL_law 448 = .ok (.iconst 1, 1) := by decide +kernel
theorem dL_law_449 : decode cL_law 449 = .ok (.iadd, 1) := by decide +kernel
theorem dL_law_450 : decode cL_law 450 = .ok (.iaload, 1) := by decide +kernel
theorem dL_law_451 : decode cL_law 451 = .ok (.aload_n 0, 1) := by decide +kernel
theorem dL_law_452 : decode cL_law 452 = .ok (.iload_n 3, 1) := by decide +kernel
theorem dL_law_453 : decode cL_law 453 = .ok (.iconst 2, 1) := by decide +kernel
theorem dL_law_454 : decode cL_law 454 = .ok (.iadd, 1) := by decide +kernel
theorem dL_law_455 : decode cL_law 455 = .ok (.iaload, 1) := by decide +kernel
theorem dL_law_456 : decode cL_law 456 = .ok (.aload_n 0, 1) := by decide +kernel
theorem dL_law_457 : decode cL_law 457 = .ok (.iload_n 3, 1) := by decide +kernel
theorem dL_law_458 : decode cL_law 458 = .ok (.iconst 3, 1) := by decide +kernel
theorem dL_law_459 : decode cL_law 459 = .ok (.iadd, 1) := by decide +kernel
theorem dL_law_460 : decode cL_law 460 = .ok (.iaload, 1) := by decide +kernel
theorem dL_law_461 : decode cL_law 461 = .ok (.invokevirtual 54, 3) := by decide +kernel
theorem dL_law_464 : decode cL_law 464 = .ok (.aload_n 2, 1) := by decide +kernel
theorem dL_law_465 : decode cL_law 465 = .ok (.aload_n 0, 1) := by decide +kernel
theorem dL_law_466 : decode cL_law 466 = .ok (.iload_n 3, 1) := by decide +kernel
theorem dL_law_467 : decode cL_law 467 = .ok (.iconst 1, 1) := by decide +kernel
theorem dL_law_468 : decode cL_law 468 = .ok (.iadd, 1) := by decide +kernel
theorem dL_law_469 : decode cL_law 469 = .ok (.iaload, 1) := by decide +kernel
theorem dL_law_470 : decode cL_law 470 = .ok (.aload_n 0, 1) := by decide +kernel
theorem dL_law_471 : decode cL_law 471 = .ok (.iload_n 3, 1) := by decide +kernel
theorem dL_law_472 : decode cL_law 472 = .ok (.iconst 2, 1) := by decide +kernel
theorem dL_law_473 : decode cL_law 473 = .ok (.iadd, 1) := by decide +kernel
theorem dL_law_474 : decode cL_law 474 = .ok (.iaload, 1) := by decide +kernel
theorem dL_law_475 : decode cL_law 475 = .ok (.aload_n 0, 1) := by decide +kernel
theorem dL_law_476 : decode cL_law 476 = .ok (.iload_n 3, 1) := by decide +kernel
theorem dL_law_477 : decode cL_law 477 = .ok (.iconst 3, 1) := by decide +kernel
theorem dL_law_478 : decode cL_law 478 = .ok (.iadd, 1) := by decide +kernel
theorem dL_law_479 : decode cL_law 479 = .ok (.iaload, 1) := by decide +kernel
theorem dL_law_480 : decode cL_law 480 = .ok (.invokevirtual 57, 3) := by decide +kernel
theorem dL_law_483 : decode cL_law 483 = .ok (.if_icmp .eq 285, 3) := by decide +kernel
theorem dL_law_486 : decode cL_law 486 = .ok (.iconst 0, 1) := by decide +kernel
theorem dL_law_487 : decode cL_law 487 = .ok (.ireturn, 1) := by decide +kernel
theorem dL_law_488 : decode cL_law 488 = .ok (.aload_n 1, 1) := by decide +kernel
theorem dL_law_489 : decode cL_law 489 = .ok (.aload_n 0, 1) := by decide +kernel
theorem dL_law_490 : decode cL_law 490 = .ok (.iload_n 3, 1) := by decide +kernel
theorem dL_law_491 : decode cL_law 491 = .ok (.iconst 1, 1) := by decide +kernel
theorem dL_law_492 : decode cL_law 492 = .ok (.iadd, 1) := by decide +kernel
theorem dL_law_493 : decode cL_law 493 = .ok (.iaload, 1) := by decide +kernel
theorem dL_law_494 : decode cL_law 494 = .ok (.aload_n 0, 1) := by decide +kernel
theorem dL_law_495 : decode cL_law 495 = .ok (.iload_n 3, 1) := by decide +kernel
theorem dL_law_496 : decode cL_law 496 = .ok (.iconst 2, 1) := by decide +kernel
theorem dL_law_497 : decode cL_law 497 = .ok (.iadd, 1) := by decide +kernel
theorem dL_law_498 : decode cL_law 498 = .ok (.iaload, 1) := by decide +kernel
theorem dL_law_499 : decode cL_law 499 = .ok (.aload_n 0, 1) := by decide +kernel
theorem dL_law_500 : decode cL_law 500 = .ok (.iload_n 3, 1) := by decide +kernel
theorem dL_law_501 : decode cL_law 501 = .ok (.iconst 3, 1) := by decide +kernel
theorem dL_law_502 : decode cL_law 502 = .ok (.iadd, 1) := by decide +kernel
theorem dL_law_503 : decode cL_law 503 = .ok (.iaload, 1) := by decide +kernel
theorem dL_law_504 : decode cL_law 504 = .ok (.invokevirtual 58, 3) := by decide +kernel
theorem dL_law_507 : decode cL_law 507 = .ok (.aload_n 2, 1) := by decide +kernel
theorem dL_law_508 : decode cL_law 508 = .ok (.aload_n 0, 1) := by decide +kernel
theorem dL_law_509 : decode cL_law 509 = .ok (.iload_n 3, 1) := by decide +kernel
theorem dL_law_510 : decode cL_law 510 = .ok (.iconst 1, 1) := by decide +kernel
theorem dL_law_511 : decode cL_law 511 = .ok (.iadd, 1) := by decide +kernel
theorem dL_law_512 : decode cL_law 512 = .ok (.iaload, 1) := by decide +kernel
theorem dL_law_513 : decode cL_law 513 = .ok (.aload_n 0, 1) := by decide +kernel
theorem dL_law_514 : decode cL_law 514 = .ok (.iload_n 3, 1) := by decide +kernel
theorem dL_law_515 : decode cL_law 515 = .ok (.iconst 2, 1) := by decide +kernel
theorem dL_law_516 : decode cL_law 516 = .ok (.iadd, 1) := by decide +kernel
theorem dL_law_517 : decode cL_law 517 = .ok (.iaload, 1) := by decide +kernel
theorem dL_law_518 : decode cL_law 518 = .ok (.aload_n 0, 1) := by decide +kernel
theorem dL_law_519 : decode cL_law 519 = .ok (.iload_n 3, 1) := by decide +kernel
theorem dL_law_520 : decode cL_law 520 = .ok (.iconst 3, 1) := by decide +kernel
theorem dL_law_521 : decode cL_law 521 = .ok (.iadd, 1) := by decide +kernel
theorem dL_law_522 : decode cL_law 522 = .ok (.iaload, 1) := by decide +kernel
theorem dL_law_523 : decode cL_law 523 = .ok (.invokevirtual 61, 3) := by decide +kernel
theorem dL_law_526 : decode cL_law 526 = .ok (.if_icmp .eq 242, 3) := by decide +kernel
theorem dL_law_529 : decode cL_law 529 = .ok (.iconst 0, 1) := by decide +kernel
theorem dL_law_530 : decode cL_law 530 = .ok (.ireturn, 1) := by decide +kernel
theorem dL_law_531 : decode cL_law 531 = .ok (.aload_n 1, 1) := by decide +kernel
theorem dL_law_532 : decode cL_law 532 = .ok (.aload_n 0, 1) := by decide +kernel
theorem dL_law_533 : decode cL_law 533 = .ok (.iload_n 3, 1) := by decide +kernel
theorem dL_law_534 : decode cL_law 534 = .ok (.iconst 1, 1) := by decide +kernel
theorem dL_law_535 : decode cL_law 535 = .ok (.iadd, 1) := by decide +kernel
theorem dL_law_536 : decode cL_law 536 = .ok (.iaload, 1) := by decide +kernel
theorem dL_law_537 : decode cL_law 537 = .ok (.invokevirtual 62, 3) := by decide +kernel
theorem dL_law_540 : decode cL_law 540 = .ok (.aload_n 2, 1) := by decide +kernel
theorem dL_law_541 : decode cL_law 541 = .ok (.aload_n 0, 1) := by decide +kernel
theorem dL_law_542 : decode cL_law 542 = .ok (.iload_n 3, 1) := by decide +kernel
theorem dL_law_543 : decode cL_law 543 = .ok (.iconst 1, 1) := by decide +kernel
theorem dL_law_544 : decode cL_law 544 = .ok (.iadd, 1) := by decide +kernel
theorem dL_law_545 : decode cL_law 545 = .ok (.iaload, 1) := by decide +kernel
theorem dL_law_546 : decode cL_law 546 = .ok (.invokevirtual 65, 3) := by decide +kernel
theorem dL_law_549 : decode cL_law 549 = .ok (.if_icmp .eq 219, 3) := by decide +kernel
theorem dL_law_552 : decode cL_law 552 = .ok (.iconst 0, 1) := by decide +kernel
theorem dL_law_553 : decode cL_law 553 = .ok (.ireturn, 1) := by decide +kernel
theorem dL_law_554 : decode cL_law 554 = .ok (.aload_n 1, 1) := by decide +kernel
theorem dL_law_555 : decode cL_law 555 = .ok (.aload_n 0, 1) := by decide +kernel
theorem dL_law_556 : decode cL_law 556 = .ok (.iload_n 3, 1) := by decide +kernel
theorem dL_law_557 : decode cL_law 557 = .ok (.iconst 1, 1) := by decide +kernel
theorem dL_law_558 : decode cL_law 558 = .ok (.iadd, 1) := by decide +kernel
theorem dL_law_559 : decode cL_law 559 = .ok (.iaload, 1) := by decide +kernel
theorem dL_law_560 : decode cL_law 560 = .ok (.aload_n 0, 1) := by decide +kernel
theorem dL_law_561 : decode cL_law 561 = .ok (.iload_n 3, 1) := by decide +kernel
theorem dL_law_562 : decode cL_law 562 = .ok (.iconst 2, 1) := by decide +kernel
theorem dL_law_563 : decode cL_law 563 = .ok (.iadd, 1) := by decide +kernel
theorem dL_law_564 : decode cL_law 564 = .ok (.iaload, 1) := by decide +kernel
theorem dL_law_565 : decode cL_law 565 = .ok (.invokevirtual 66, 3) := by decide +kernel
theorem dL_law_568 : decode cL_law 568 = .ok (.aload_n 2, 1) := by decide +kernel
theorem dL_law_569 : decode cL_law 569 = .ok (.aload_n 0, 1) := by decide +kernel
theorem dL_law_570 : decode cL_law 570 = .ok (.iload_n 3, 1) := by decide +kernel
theorem dL_law_571 : decode cL_law 571 = .ok (.iconst 1, 1) := by decide +kernel
theorem dL_law_572 : decode cL_law 572 = .ok (.iadd, 1) := by decide +kernel
theorem dL_law_573 : decode cL_law 573 = .ok (.iaload, 1) := by decide +kernel
theorem dL_law_574 : decode cL_law 574 = .ok (.aload_n 0, 1) := by decide +kernel
theorem dL_law_575 : decode cL_law 575 = .ok (.iload_n 3, 1) := by decide +kernel
theorem dL_law_576 : decode cL_law 576 = .ok (.iconst 2, 1) := by decide +kernel
theorem dL_law_577 : decode cL_law 577 = .ok (.iadd, 1) := by decide +kernel
theorem dL_law_578 : decode cL_law 578 = .ok (.iaload, 1) := by decide +kernel
theorem dL_law_579 : decode cL_law 579 = .ok (.invokevirtual 69, 3) := by decide +kernel
theorem dL_law_582 : decode cL_law 582 = .ok (.if_icmp .eq 186, 3) := by decide +kernel
theorem dL_law_585 : decode cL_law 585 = .ok (.iconst 0, 1) := by decide +kernel
theorem dL_law_586 : decode cL_law 586 = .ok (.ireturn, 1) := by decide +kernel
theorem dL_law_587 : decode cL_law 587 = .ok (.aload_n 1, 1) := by decide +kernel
theorem dL_law_588 : decode cL_law 588 = .ok (.aload_n 0, 1) := by decide +kernel
theorem dL_law_589 : decode cL_law 589 = .ok (.iload_n 3, 1) := by decide +kernel
theorem dL_law_590 : decode cL_law 590 = .ok (.iconst 1, 1) := by decide +kernel
theorem dL_law_591 : decode cL_law 591 = .ok (.iadd, 1) := by decide +kernel
theorem dL_law_592 : decode cL_law 592 = .ok (.iaload, 1) := by decide +kernel
theorem dL_law_593 : decode cL_law 593 = .ok (.invokevirtual 70, 3) := by decide +kernel
theorem dL_law_596 : decode cL_law 596 = .ok (.aload_n 2, 1) := by decide +kernel
theorem dL_law_597 : decode cL_law 597 = .ok (.aload_n 0, 1) := by decide +kernel
theorem dL_law_598 : decode cL_law 598 = .ok (.iload_n 3, 1) := by decide +kernel
theorem dL_law_599 : decode cL_law 599 = .ok (.iconst 1, 1) := by decide +kernel
theorem dL_law_600 : decode cL_law 600 = .ok (.iadd, 1) := by decide +kernel
theorem dL_law_601 : decode cL_law 601 = .ok (.iaload, 1) := by decide +kernel
theorem dL_law_602 : decode cL_law 602 = .ok (.invokevirtual 73, 3) := by decide +kernel
theorem dL_law_605 : decode cL_law 605 = .ok (.if_icmp .eq 163, 3) := by decide +kernel
theorem dL_law_608 : decode cL_law 608 = .ok (.iconst 0, 1) := by decide +kernel
theorem dL_law_609 : decode cL_law 609 = .ok (.ireturn, 1) := by decide +kernel
theorem dL_law_610 : decode cL_law 610 = .ok (.aload_n 1, 1) := by decide +kernel
theorem dL_law_611 : decode cL_law 611 = .ok (.aload_n 0, 1) := by decide +kernel
theorem dL_law_612 : decode cL_law 612 = .ok (.iload_n 3, 1) := by decide +kernel
theorem dL_law_613 : decode cL_law 613 = .ok (.iconst 1, 1) := by decide +kernel
theorem dL_law_614 : decode cL_law 614 = .ok (.iadd, 1) := by decide +kernel
theorem dL_law_615 : decode cL_law 615 = .ok (.iaload, 1) := by decide +kernel
theorem dL_law_616 : decode cL_law 616 = .ok (.invokevirtual 74, 3) := by decide +kernel
theorem dL_law_619 : decode cL_law 619 = .ok (.aload_n 2, 1) := by decide +kernel
theorem dL_law_620 : decode cL_law 620 = .ok (.aload_n 0, 1) := by decide +kernel
theorem dL_law_621 : decode cL_law 621 = .ok (.iload_n 3, 1) := by decide +kernel
theorem dL_law_622 : decode cL_law 622 = .ok (.iconst 1, 1) := by decide +kernel
theorem dL_law_623 : decode cL_law 623 = .ok (.iadd, 1) := by decide +kernel
theorem dL_law_624 : decode cL_law 624 = .ok (.iaload, 1) := by decide +kernel
theorem dL_law_625 : decode cL_law 625 = .ok (.invokevirtual 77, 3) := by decide +kernel
theorem dL_law_628 : decode cL_law 628 = .ok (.if_icmp .eq 140, 3) := by decide +kernel
theorem dL_law_631 : decode cL_law 631 = .ok (.iconst 0, 1) := by decide +kernel
theorem dL_law_632 : decode cL_law 632 = .ok (.ireturn, 1) := by decide +kernel
theorem dL_law_633 : decode cL_law 633 = .ok (.aload_n 1, 1) := by decide +kernel
theorem dL_law_634 : decode cL_law 634 = .ok (.aload_n 0, 1) := by decide +kernel
theorem dL_law_635 : decode cL_law 635 = .ok (.iload_n 3, 1) := by decide +kernel
theorem dL_law_636 : decode cL_law 636 = .ok (.iconst 1, 1) := by decide +kernel
theorem dL_law_637 : decode cL_law 637 = .ok (.iadd, 1) := by decide +kernel
theorem dL_law_638 : decode cL_law 638 = .ok (.iaload, 1) := by decide +kernel
theorem dL_law_639 : decode cL_law 639 = .ok (.aload_n 0, 1) := by decide +kernel
theorem dL_law_640 : decode cL_law 640 = .ok (.iload_n 3, 1) := by decide +kernel
theorem dL_law_641 : decode cL_law 641 = .ok (.iconst 2, 1) := by decide +kernel
theorem dL_law_642 : decode cL_law 642 = .ok (.iadd, 1) := by decide +kernel
theorem dL_law_643 : decode cL_law 643 = .ok (.iaload, 1) := by decide +kernel
theorem dL_law_644 : decode cL_law 644 = .ok (.invokevirtual 78, 3) := by decide +kernel
theorem dL_law_647 : decode cL_law 647 = .ok (.aload_n 2, 1) := by decide +kernel
theorem dL_law_648 : decode cL_law 648 = .ok (.aload_n 0, 1) := by decide +kernel
theorem dL_law_649 : decode cL_law 649 = .ok (.iload_n 3, 1) := by decide +kernel
theorem dL_law_650 : decode cL_law 650 = .ok (.iconst 1, 1) := by decide +kernel
theorem dL_law_651 : decode cL_law 651 = .ok (.iadd, 1) := by decide +kernel
theorem dL_law_652 : decode cL_law 652 = .ok (.iaload, 1) := by decide +kernel
theorem dL_law_653 : decode cL_law 653 = .ok (.aload_n 0, 1) := by decide +kernel
theorem dL_law_654 : decode cL_law 654 = .ok (.iload_n 3, 1) := by decide +kernel
theorem dL_law_655 : decode cL_law 655 = .ok (.iconst 2, 1) := by decide +kernel
theorem dL_law_656 : decode cL_law 656 = .ok (.iadd, 1) := by decide +kernel
theorem dL_law_657 : decode cL_law 657 = .ok (.iaload, 1) := by decide +kernel
theorem dL_law_658 : decode cL_law 658 = .ok (.invokevirtual 81, 3) := by decide +kernel
theorem dL_law_661 : decode cL_law 661 = .ok (.if_icmp .eq 107, 3) := by decide +kernel
theorem dL_law_664 : decode cL_law 664 = .ok (.iconst 0, 1) := by decide +kernel
theorem dL_law_665 : decode cL_law 665 = .ok (.ireturn, 1) := by decide +kernel
theorem dL_law_666 : decode cL_law 666 = .ok (.aload_n 1, 1) := by decide +kernel
theorem dL_law_667 : decode cL_law 667 = .ok (.aload_n 0, 1) := by decide +kernel
theorem dL_law_668 : decode cL_law 668 = .ok (.iload_n 3, 1) := by decide +kernel
theorem dL_law_669 : decode cL_law 669 = .ok (.iconst 1, 1) := by decide +kernel
theorem dL_law_670 : decode cL_law 670 = .ok (.iadd, 1) := by decide +kernel
theorem dL_law_671 : decode cL_law 671 = .ok (.iaload, 1) := by decide +kernel
theorem dL_law_672 : decode cL_law 672 = .ok (.invokevirtual 82, 3) := by decide +kernel
theorem dL_law_675 : decode cL_law 675 = .ok (.aload_n 2, 1) := by decide +kernel
theorem dL_law_676 : decode cL_law 676 = .ok (.aload_n 0, 1) := by decide +kernel
theorem dL_law_677 : decode cL_law 677 = .ok (.iload_n 3, 1) := by decide +kernel
theorem dL_law_678 : decode cL_law 678 = .ok (.iconst 1, 1) := by decide +kernel
theorem dL_law_679 : decode cL_law 679 = .ok (.iadd, 1) := by decide +kernel
theorem dL_law_680 : decode cL_law 680 = .ok (.iaload, 1) := by decide +kernel
theorem dL_law_681 : decode cL_law 681 = .ok (.invokevirtual 85, 3) := by decide +kernel
theorem dL_law_684 : decode cL_law 684 = .ok (.if_icmp .eq 84, 3) := by decide +kernel
theorem dL_law_687 : decode cL_law 687 = .ok (.iconst 0, 1) := by decide +kernel
theorem dL_law_688 : decode cL_law 688 = .ok (.ireturn, 1) := by decide +kernel
theorem dL_law_689 : decode cL_law 689 = .ok (.aload_n 1, 1) := by decide +kernel
theorem dL_law_690 : decode cL_law 690 = .ok (.aload_n 0, 1) := by decide +kernel
theorem dL_law_691 : decode cL_law 691 = .ok (.iload_n 3, 1) := by decide +kernel
theorem dL_law_692 : decode cL_law 692 = .ok (.iconst 1, 1) := by decide +kernel
theorem dL_law_693 : decode cL_law 693 = .ok (.iadd, 1) := by decide +kernel
theorem dL_law_694 : decode cL_law 694 = .ok (.iaload, 1) := by decide +kernel
theorem dL_law_695 : decode cL_law 695 = .ok (.aload_n 0, 1) := by decide +kernel
theorem dL_law_696 : decode cL_law 696 = .ok (.iload_n 3, 1) := by decide +kernel
theorem dL_law_697 : decode cL_law 697 = .ok (.iconst 2, 1) := by decide +kernel
theorem dL_law_698 : decode cL_law 698 = .ok (.iadd, 1) := by decide +kernel
theorem dL_law_699 : decode cL_law 699 = .ok (.iaload, 1) := by decide +kernel
theorem dL_law_700 : decode cL_law 700 = .ok (.invokevirtual 86, 3) := by decide +kernel
theorem dL_law_703 : decode cL_law 703 = .ok (.aload_n 2, 1) := by decide +kernel
theorem dL_law_704 : decode cL_law 704 = .ok (.aload_n 0, 1) := by decide +kernel
theorem dL_law_705 : decode cL_law 705 = .ok (.iload_n 3, 1) := by decide +kernel
theorem dL_law_706 : decode cL_law 706 = .ok (.iconst 1, 1) := by decide +kernel
theorem dL_law_707 : decode cL_law 707 = .ok (.iadd, 1) := by decide +kernel
theorem dL_law_708 : decode cL_law 708 = .ok (.iaload, 1) := by decide +kernel
theorem dL_law_709 : decode cL_law 709 = .ok (.aload_n 0, 1) := by decide +kernel
theorem dL_law_710 : decode cL_law 710 = .ok (.iload_n 3, 1) := by decide +kernel
theorem dL_law_711 : decode cL_law 711 = .ok (.iconst 2, 1) := by decide +kernel
theorem dL_law_712 : decode cL_law 712 = .ok (.iadd, 1) := by decide +kernel
theorem dL_law_713 : decode cL_law 713 = .ok (.iaload, 1) := by decide +kernel
theorem dL_law_714 : decode cL_law 714 = .ok (.invokevirtual 89, 3) := by decide +kernel
theorem dL_law_717 : decode cL_law 717 = .ok (.if_icmp .eq 51, 3) := by decide +kernel
theorem dL_law_720 : decode cL_law 720 = .ok (.iconst 0, 1) := by decide +kernel
theorem dL_law_721 : decode cL_law 721 = .ok (.ireturn, 1) := by decide +kernel
theorem dL_law_722 : decode cL_law 722 = .ok (.aload_n 1, 1) := by decide +kernel
theorem dL_law_723 : decode cL_law 723 = .ok (.aload_n 0, 1) := by decide +kernel
theorem dL_law_724 : decode cL_law 724 = .ok (.iload_n 3, 1) := by decide +kernel
theorem dL_law_725 : decode cL_law 725 = .ok (.iconst 1, 1) := by decide +kernel
theorem dL_law_726 : decode cL_law 726 = .ok (.iadd, 1) := by decide +kernel
theorem dL_law_727 : decode cL_law 727 = .ok (.iaload, 1) := by decide +kernel
theorem dL_law_728 : decode cL_law 728 = .ok (.invokevirtual 90, 3) := by decide +kernel
theorem dL_law_731 : decode cL_law 731 = .ok (.aload_n 2, 1) := by decide +kernel
theorem dL_law_732 : decode cL_law 732 = .ok (.aload_n 0, 1) := by decide +kernel
theorem dL_law_733 : decode cL_law 733 = .ok (.iload_n 3, 1) := by decide +kernel
theorem dL_law_734 : decode cL_law 734 = .ok (.iconst 1, 1) := by decide +kernel
theorem dL_law_735 : decode cL_law 735 = .ok (.iadd, 1) := by decide +kernel
theorem dL_law_736 : decode cL_law 736 = .ok (.iaload, 1) := by decide +kernel
theorem dL_law_737 : decode cL_law 737 = .ok (.invokevirtual 93, 3) := by decide +kernel
theorem dL_law_740 : decode cL_law 740 = .ok (.if_icmp .eq 28, 3) := by decide +kernel
theorem dL_law_743 : decode cL_law 743 = .ok (.iconst 0, 1) := by decide +kernel
theorem dL_law_744 : decode cL_law 744 = .ok (.ireturn, 1) := by decide +kernel
theorem dL_law_745 : decode cL_law 745 = .ok (.aload_n 1, 1) := by decide +kernel
theorem dL_law_746 : decode cL_law 746 = .ok (.aload_n 0, 1) := by decide +kernel
theorem dL_law_747 : decode cL_law 747 = .ok (.iload_n 3, 1) := by decide +kernel
theorem dL_law_748 : decode cL_law 748 = .ok (.iconst 1, 1) := by decide +kernel
theorem dL_law_749 : decode cL_law 749 = .ok (.iadd, 1) := by decide +kernel
theorem dL_law_750 : decode cL_law 750 = .ok (.iaload, 1) := by decide +kernel
theorem dL_law_751 : decode cL_law 751 = .ok (.invokevirtual 94, 3) := by decide +kernel
theorem dL_law_754 : decode cL_law 754 = .ok (.aload_n 2, 1) := by decide +kernel
theorem dL_law_755 : decode cL_law 755 = .ok (.aload_n 0, 1) := by decide +kernel
theorem dL_law_756 : decode cL_law 756 = .ok (.iload_n 3, 1) := by decide +kernel
theorem dL_law_757 : decode cL_law 757 = .ok (.iconst 1, 1) := by decide +kernel
theorem dL_law_758 : decode cL_law 758 = .ok (.iadd, 1) := by decide +kernel
theorem dL_law_759 : decode cL_law 759 = .ok (.iaload, 1) := by decide +kernel
theorem dL_law_760 : decode cL_law 760 = .ok (.invokevirtual 97, 3) := by decide +kernel
theorem dL_law_763 : decode cL_law 763 = .ok (.if_icmp .eq 5, 3) := by decide +kernel
theorem dL_law_766 : decode cL_law 766 = .ok (.iconst 0, 1) := by decide +kernel
theorem dL_law_767 : decode cL_law 767 = .ok (.ireturn, 1) := by decide +kernel
theorem dL_law_768 : decode cL_law 768 = .ok (.iinc 3 5, 3) := by decide +kernel
theorem dL_law_771 : decode cL_law 771 = .ok (.goto (-753), 3) := by decide +kernel
theorem dL_law_774 : decode cL_law 774 = .ok (.iconst 1, 1) := by decide +kernel
theorem dL_law_775 : decode cL_law 775 = .ok (.ireturn, 1) := by decide +kernel
end
section
-- the layer over the kit: abstract values, stores, worlds, and the judgement AW (own work)
abbrev AV : Type := Int32 ⊕ Option Nat
abbrev ST : Type := (Nat → Nat → Int32) × (Nat → Nat → Option Nat) × Nat
abbrev WL : Type := ClassId → ClassId → ClassId → (Nat → Nat) → ST → va_W
def av_v (ad : Nat → Nat) (v : AV) : Value := match v with
  | .inl x => .int x
  | .inr r => va_rf (r.map ad)
theorem av_cat (ad : Nat → Nat) (v : AV) : (av_v ad v).category = 1 := by
  rcases v with x | r
  · rfl
  · cases r <;> rfl
theorem av_sum (ad : Nat → Nat) (st : List AV) : ((st.map (av_v ad)).map fun v => v.category).sum = st.length := by
  induction st with
  | nil => rfl
  | cons a l ih => simp only [List.map_cons, List.sum_cons, av_cat, ih, List.length_cons]; omega
/-- the words every method stands on -/
def WT : List Cond := lw_tbl.filter goodWord
theorem wt_in {w : Cond} (i : Nat) (h : lw_tbl[i]? = some w) (hg : goodWord w = true) : w ∈ WT := List.mem_filter.mpr ⟨List.mem_of_getElem? h, hg⟩
theorem wt_good {c : Cond} {d : Cond} (h : d ∈ WT) : GoodIn (c :: WT) (d :: WT) := by
  intro w hw
  have hm : w ∈ WT := by
    rcases List.mem_cons.mp hw with rfl | hw
    · exact h
    · exact hw
  exact ⟨List.mem_cons_of_mem _ hm, good_of_word (List.mem_filter.mp hm).2⟩
abbrev tys3 (cI cZ cD : ClassId) : List (ClassId × FieldType) := [(cI, .int), (cZ, .boolean), (cD, .object "RoadTrace$Drive")]
/-- the locals -/
def lvs (ad : Nat → Nat) (ls : Array Slot) (nL : Nat) (L : List (Option AV)) : Prop := ls.size = nL ∧ lv_wf ls ∧ ∀ (i : Nat) (v : AV), L[i]? = some (some v) → ls[i]? = some (.val (av_v ad v))
def lva (ad : Nat → Nat) (L : List (Option AV)) : List (Nat × Value) := (List.range L.length).filterMap (fun i => (L[i]?).join.map (fun v => (i, av_v ad v)))
theorem lva_mem {ad : Nat → Nat} {L : List (Option AV)} {i : Nat} {w : Value} : (i, w) ∈ lva ad L ↔ ∃ v, L[i]? = some (some v) ∧ w = av_v ad v := by
  unfold lva
  rw [List.mem_filterMap]
  constructor
  · rintro ⟨j, hj, h⟩
    cases hL : L[j]? with
    | none => rw [hL] at h; simp at h
    | some o => cases o with
      | none => rw [hL] at h; simp at h
      | some v => rw [hL] at h; simp at h; exact ⟨v, by rw [← h.1]; exact hL, h.2.symm⟩
  · rintro ⟨v, hv, rfl⟩
    refine ⟨i, List.mem_range.mpr (List.getElem?_eq_some_iff.mp hv).1, ?_⟩
    rw [hv]; rfl
theorem lvs.has {ad : Nat → Nat} {ls : Array Slot} {nL : Nat} {L : List (Option AV)} (h : lvs ad ls nL L) : lv_has ls nL (lva ad L) := by
  refine ⟨h.1, h.2.1, ?_⟩
  rintro ⟨i, w⟩ hq
  obtain ⟨v, hv, rfl⟩ := lva_mem.mp hq
  exact h.2.2 i v hv
theorem lvs.set {ad : Nat → Nat} {ls : Array Slot} {nL : Nat} {L : List (Option AV)} {i : Nat} {v : AV} (h : lv_has ls nL ((i, av_v ad v) :: (lva ad L).filter (fun q => !(q.1 == i) && !(q.1 + 1 == i && q.2.category == 2)))) : lvs ad ls nL (L.set i (some v)) := by
  refine ⟨h.1, h.2.1, fun j w hj => ?_⟩
  by_cases hji : j = i
  · subst hji
    have hl : j < L.length := by
      have := (List.getElem?_eq_some_iff.mp hj).1
      simpa using this
    rw [List.getElem?_set_self hl] at hj
    have : v = w := by simpa using hj
    subst this
    exact h.2.2 (j, av_v ad v) List.mem_cons_self
  · rw [List.getElem?_set_ne (fun e => hji e.symm)] at hj
    refine h.2.2 (j, av_v ad w) (List.mem_cons_of_mem _ (List.mem_filter.mpr ⟨lva_mem.mpr ⟨w, hj, rfl⟩, ?_⟩))
    simp [hji, av_cat]
theorem lvs.weak {ad : Nat → Nat} {ls : Array Slot} {nL : Nat} {L L' : List (Option AV)} (h : lvs ad ls nL L) (hs : ∀ (i : Nat) (v : AV), L'[i]? = some (some v) → L[i]? = some (some v)) : lvs ad ls nL L' := ⟨h.1, h.2.1, fun i v hv => h.2.2 i v (hs i v hv)⟩
/-- what a run of a method stands on -/
def Cx (y : MethodName) (cc : ByteArray) (nL : Nat) (ret : Option FieldType) (p : Program) (s : State) (m : MethodId) (args : Array Value) (meth : Method) (c : Code) (D : va_G) (cI cZ cD : ClassId) (A : Nat → Prop) : Prop :=
  p.tables.exec = Jvm.exec ∧ c.code = cc ∧ meth.sig.returnType = ret ∧ (∀ w ∈ (Cond.code y cc nL ret :: WT), w.before args s = true) ∧ s.vm.findClass y.cls = some m.cls ∧ c.maxLocals = nL ∧ meth.locks = false ∧ va_K D vwCl (tys3 cI cZ cD) s ∧ (∀ q, s.heap.size ≤ q → A q)
def QC (wl : WL) (o' : Option AV) (σ' : ST) (D : va_G) (cI cZ cD : ClassId) (ad : Nat → Nat) (A : Nat → Prop) : Array Value → State → Outcome → State → Prop := fun _ st o t =>
  o = .returned (o'.map (av_v ad)) ∧ va_P D vwCl (wl cI cZ cD ad σ') t.heap ∧ va_K D vwCl (tys3 cI cZ cD) t ∧ va_D A (wl cI cZ cD ad σ') ∧ va_F A st t
def AW (wl : WL) (y : MethodName) (cc : ByteArray) (nL : Nat) (ret : Option FieldType) (rm : Room) {ρ : Type} (em : ρ → Option AV) (K : Option (ρ × ST)) (pc : Nat) (L : List (Option AV)) (st : List AV) (σ : ST) : Prop :=
  ∀ (r : ρ) (σ' : ST), K = some (r, σ') → ∀ (p : Program) (l : Launch) (e : Env) (s : State) (m : MethodId) (args : Array Value) (below : List Frame) (meth : Method) (c : Code) (D : va_G) (cI cZ cD : ClassId) (A : Nat → Prop), Cx y cc nL ret p s m args meth c D cI cZ cD A →
    ∀ (ad : Nat → Nat) (H : Heap) (locs : List Loc) (ls : Array Slot), va_P D vwCl (wl cI cZ cD ad σ) H → va_D A (wl cI cZ cD ad σ) → va_S A s.heap H locs → lvs ad ls nL L →
      W p l e rm s m args below meth c H locs 0 0 (MQ below (QC wl (em r) σ' D cI cZ cD ad A) args s 0 0 A) (F0 m pc ls (st.map (av_v ad)))
def MS (wl : WL) (y : MethodName) (cc : ByteArray) (nL : Nat) (ret : Option FieldType) (rm : Room) {ρ : Type} (em : ρ → Option AV) (av : List AV) (σ : ST) (K : Option (ρ × ST)) : Prop :=
  ∀ (r : ρ) (σ' : ST), K = some (r, σ') → ∀ (l : Launch) (D : va_G) (cI cZ cD : ClassId) (ad : Nat → Nat) (sz : Nat),
    Met l y (Cond.code y cc nL ret :: WT) rm (va_Pc (av.map (av_v ad)) (fun U => U.heap.size = sz ∧ va_P D vwCl (wl cI cZ cD ad σ) U.heap ∧ va_K D vwCl (tys3 cI cZ cD) U ∧ va_D (fun _ => True) (wl cI cZ cD ad σ)))
      (QC wl (em r) σ' D cI cZ cD ad (va_A (wl cI cZ cD ad σ) sz)) 0 0 (va_A (wl cI cZ cD ad σ) sz)
def ObjAt (wl : WL) (σ : ST) (k ci : Nat) (fs : List AV) : Prop := ∀ cI cZ cD ad, (wl cI cZ cD ad σ)[k]? = some (ad k, .inr (ci, fs.map (av_v ad)))
def IntAt (wl : WL) (σ : ST) (k n : Nat) (f : Nat → Int32) : Prop := ∀ cI cZ cD ad, (wl cI cZ cD ad σ)[k]? = some (ad k, .inl (cI, n, .inl f))
def BoolAt (wl : WL) (σ : ST) (k n : Nat) (f : Nat → Int32) : Prop := ∀ cI cZ cD ad, (wl cI cZ cD ad σ)[k]? = some (ad k, .inl (cZ, n, .inl f))
def RefAt (wl : WL) (σ : ST) (k n : Nat) (f : Nat → Option Nat) : Prop := ∀ cI cZ cD ad, (wl cI cZ cD ad σ)[k]? = some (ad k, .inl (cD, n, .inr (.inr (.inr (.inr (fun j => (f j).map ad))))))
/-- a row in range -/
def ib (i : Int32) (n : Nat) : Bool := decide (¬ (i < 0 ∨ n ≤ i.toNatClampNeg))
theorem ib_in {i : Int32} {n : Nat} (h : ib i n = true) : vp_in i n := by unfold ib at h; have h2 : ¬ (i < 0 ∨ n ≤ i.toNatClampNeg) := of_decide_eq_true h; exact h2
def FieldOK (own : String) (idx ci j : Nat) : Prop := ∃ (C : String) (T : u_T) (N : Nat), vwCl[ci]? = some (C, T, N) ∧ j < N ∧ (∀ w ∈ u_ws C T N, w ∈ WT) ∧ Cond.fieldLink own idx (T j).1 (T j).2.1 (T j).2.2.1 ∈ WT
def FieldW (own : String) (idx ci j : Nat) (ty : FieldType) : Prop := ∃ (C : String) (T : u_T) (N : Nat) (ty0 : Nat → FieldType), vwCl[ci]? = some (C, T, N) ∧ j < N ∧ (∀ w ∈ u_ws C T N, w ∈ WT) ∧ Cond.fieldLink own idx (T j).1 (T j).2.1 (T j).2.2.1 ∈ WT ∧
  (∀ k, k < N → parseFieldDescriptor (T k).2.2.1 = some (ty0 k)) ∧ (∀ a, a < N → ∀ b, b < N → a ≠ b → (T a).2.1 ≠ (T b).2.1) ∧ (T j).2.2.2 = false ∧ parseFieldDescriptor (T j).2.2.1 = some ty
def CallOK (own : String) (idx : Nat) (y : MethodName) (cc : ByteArray) (nL : Nat) (ret : Option FieldType) (n : Nat) : Prop :=
  Cond.methodLink own idx y ∈ WT ∧ Cond.instanceMethod y ∈ WT ∧ Cond.selects y.cls y y ∈ WT ∧ Cond.initialized y.cls ∈ WT ∧ Cond.code y cc nL ret ∈ WT ∧ y.cls ≠ "java/lang/invoke/MethodHandle" ∧ y.cls ≠ "java/lang/invoke/VarHandle" ∧ (parseMethodDescriptor y.desc).map (fun d => d.parameters.length) = some n
def CallSOK (own : String) (idx : Nat) (y : MethodName) (cc : ByteArray) (nL : Nat) (ret : Option FieldType) (n : Nat) : Prop :=
  Cond.methodLink own idx y ∈ WT ∧ Cond.static y ∈ WT ∧ Cond.initialized y.cls ∈ WT ∧ Cond.code y cc nL ret ∈ WT ∧ y.cls ≠ "java/lang/invoke/MethodHandle" ∧ y.cls ≠ "java/lang/invoke/VarHandle" ∧ (parseMethodDescriptor y.desc).map (fun d => d.parameters.length) = some n
def RoomOK (rm rm2 : Room) (nL2 : Nat) : Prop := rm2.cells = 0 ∧ rm2.slots = 0 ∧ rm2.frames + 1 ≤ rm.frames ∧ 8 + (nL2 + 11) + rm2.locals ≤ rm.locals
section AWR
variable {wl : WL} {y : MethodName} {cc : ByteArray} {nL : Nat} {ret : Option FieldType} {rm : Room} {ρ : Type} {em : ρ → Option AV} {K K1 K2 : Option (ρ × ST)} {pc : Nat} {L : List (Option AV)} {st : List AV} {σ : ST}
theorem aw_none : AW wl y cc nL ret rm em none pc L st σ := fun _ _ h => by cases h
theorem aw_weak {L' : List (Option AV)} (hs : ∀ (i : Nat) (v : AV), L'[i]? = some (some v) → L[i]? = some (some v)) (k : AW wl y cc nL ret rm em K pc L' st σ) : AW wl y cc nL ret rm em K pc L st σ := by
  intro r σ' hK p l e s m args below meth c D cI cZ cD A hC ad H locs ls hP hD hS hl
  exact k r σ' hK p l e s m args below meth c D cI cZ cD A hC ad H locs ls hP hD hS (hl.weak hs)
theorem aw_if {q : Prop} {d : Decidable q} (h1 : q → AW wl y cc nL ret rm em K1 pc L st σ) (h2 : ¬ q → AW wl y cc nL ret rm em K2 pc L st σ) : AW wl y cc nL ret rm em (@ite _ q d K1 K2) pc L st σ := by
  by_cases h : q
  · rw [if_pos h]; exact h1 h
  · rw [if_neg h]; exact h2 h
theorem aw_chk {q : Prop} {d : Decidable q} (h1 : q → AW wl y cc nL ret rm em K pc L st σ) : AW wl y cc nL ret rm em (@ite _ q d K none) pc L st σ := aw_if h1 (fun _ => aw_none)
theorem aw_iconst {n : Int} {v : Int32} (hd : decode cc pc = .ok (.iconst n, 1)) (hv : Int32.ofInt n = v) (k : AW wl y cc nL ret rm em K (pc + 1) L (.inl v :: st) σ) : AW wl y cc nL ret rm em K pc L st σ := by
  intro r σ' hK p l e s m args below meth c D cI cZ cD A hC ad H locs ls hP hD hS hl
  exact lv_iconst hC.1 hC.2.1 hd hv (k r σ' hK p l e s m args below meth c D cI cZ cD A hC ad H locs ls hP hD hS hl)
theorem aw_bipush {n : Int} {v : Int32} (hd : decode cc pc = .ok (.bipush n, 2)) (hv : (Int8.ofInt n).toInt32 = v) (k : AW wl y cc nL ret rm em K (pc + 2) L (.inl v :: st) σ) : AW wl y cc nL ret rm em K pc L st σ := by
  intro r σ' hK p l e s m args below meth c D cI cZ cD A hC ad H locs ls hP hD hS hl
  exact lv_bipush hC.1 hC.2.1 hd hv (k r σ' hK p l e s m args below meth c D cI cZ cD A hC ad H locs ls hP hD hS hl)
theorem aw_sipush {n : Int} {v : Int32} (hd : decode cc pc = .ok (.sipush n, 3)) (hv : (Int16.ofInt n).toInt32 = v) (k : AW wl y cc nL ret rm em K (pc + 3) L (.inl v :: st) σ) : AW wl y cc nL ret rm em K pc L st σ := by
  intro r σ' hK p l e s m args below meth c D cI cZ cD A hC ad H locs ls hP hD hS hl
  exact lv_sipush hC.1 hC.2.1 hd hv (k r σ' hK p l e s m args below meth c D cI cZ cD A hC ad H locs ls hP hD hS hl)
theorem aw_ldc {idx : Nat} {v : Int32} (hw : Cond.constant y.cls idx v ∈ WT) (hd : decode cc pc = .ok (.ldc idx, 2)) (k : AW wl y cc nL ret rm em K (pc + 2) L (.inl v :: st) σ) : AW wl y cc nL ret rm em K pc L st σ := by
  intro r σ' hK p l e s m args below meth c D cI cZ cD A hC ad H locs ls hP hD hS hl
  exact lv_ldc hC.1 hC.2.1 hC.2.2.2.2.1 (hC.2.2.2.1 _ (List.mem_cons_of_mem _ hw)) hd (k r σ' hK p l e s m args below meth c D cI cZ cD A hC ad H locs ls hP hD hS hl)
theorem aw_iload_n {kk : Fin 4} {i : Nat} {x : Int32} (hd : decode cc pc = .ok (.iload_n kk, 1)) (hi : (kk : Nat) = i) (hL : L[i]? = some (some (.inl x))) (k : AW wl y cc nL ret rm em K (pc + 1) L (.inl x :: st) σ) : AW wl y cc nL ret rm em K pc L st σ := by
  intro r σ' hK p l e s m args below meth c D cI cZ cD A hC ad H locs ls hP hD hS hl
  exact lv_iload_n hC.1 hC.2.1 hd hi (hl.2.2 i _ hL) (k r σ' hK p l e s m args below meth c D cI cZ cD A hC ad H locs ls hP hD hS hl)
theorem aw_iload {i : Nat} {x : Int32} (hd : decode cc pc = .ok (.iload i, 2)) (hL : L[i]? = some (some (.inl x))) (k : AW wl y cc nL ret rm em K (pc + 2) L (.inl x :: st) σ) : AW wl y cc nL ret rm em K pc L st σ := by
  intro r σ' hK p l e s m args below meth c D cI cZ cD A hC ad H locs ls hP hD hS hl
  exact lv_iload hC.1 hC.2.1 hd (hl.2.2 i _ hL) (k r σ' hK p l e s m args below meth c D cI cZ cD A hC ad H locs ls hP hD hS hl)
theorem aw_aload_n {kk : Fin 4} {i : Nat} {x : Option Nat} (hd : decode cc pc = .ok (.aload_n kk, 1)) (hi : (kk : Nat) = i) (hL : L[i]? = some (some (.inr x))) (k : AW wl y cc nL ret rm em K (pc + 1) L (.inr x :: st) σ) : AW wl y cc nL ret rm em K pc L st σ := by
  intro r σ' hK p l e s m args below meth c D cI cZ cD A hC ad H locs ls hP hD hS hl
  have k' := k r σ' hK p l e s m args below meth c D cI cZ cD A hC ad H locs ls hP hD hS hl
  have hL' := hl.2.2 i _ hL
  cases x with
  | none => exact lv_aload_nN hC.1 hC.2.1 hd hi hL' k'
  | some a => exact lv_aload_n hC.1 hC.2.1 hd hi hL' k'
theorem aw_aload {i : Nat} {x : Option Nat} (hd : decode cc pc = .ok (.aload i, 2)) (hL : L[i]? = some (some (.inr x))) (k : AW wl y cc nL ret rm em K (pc + 2) L (.inr x :: st) σ) : AW wl y cc nL ret rm em K pc L st σ := by
  intro r σ' hK p l e s m args below meth c D cI cZ cD A hC ad H locs ls hP hD hS hl
  have k' := k r σ' hK p l e s m args below meth c D cI cZ cD A hC ad H locs ls hP hD hS hl
  have hL' := hl.2.2 i _ hL
  cases x with
  | none => exact lv_aloadN hC.1 hC.2.1 hd hL' k'
  | some a => exact lv_aload hC.1 hC.2.1 hd hL' k'
theorem aw_istore_n {kk : Fin 4} {i : Nat} {x : Int32} (hd : decode cc pc = .ok (.istore_n kk, 1)) (hi : (kk : Nat) = i) (hn : i < nL) (k : AW wl y cc nL ret rm em K (pc + 1) (L.set i (some (.inl x))) st σ) : AW wl y cc nL ret rm em K pc L (.inl x :: st) σ := by
  intro r σ' hK p l e s m args below meth c D cI cZ cD A hC ad H locs ls hP hD hS hl
  exact lv_istore_n hC.1 hC.2.1 hd hi hl.has hn rfl (fun ls' h' => k r σ' hK p l e s m args below meth c D cI cZ cD A hC ad H locs ls' hP hD hS (lvs.set (v := .inl x) h'))
theorem aw_istore {i : Nat} {x : Int32} (hd : decode cc pc = .ok (.istore i, 2)) (hn : i < nL) (k : AW wl y cc nL ret rm em K (pc + 2) (L.set i (some (.inl x))) st σ) : AW wl y cc nL ret rm em K pc L (.inl x :: st) σ := by
  intro r σ' hK p l e s m args below meth c D cI cZ cD A hC ad H locs ls hP hD hS hl
  exact lv_istore hC.1 hC.2.1 hd hl.has hn rfl (fun ls' h' => k r σ' hK p l e s m args below meth c D cI cZ cD A hC ad H locs ls' hP hD hS (lvs.set (v := .inl x) h'))
theorem aw_astore_n {kk : Fin 4} {i : Nat} {x : Option Nat} (hd : decode cc pc = .ok (.astore_n kk, 1)) (hi : (kk : Nat) = i) (hn : i < nL) (k : AW wl y cc nL ret rm em K (pc + 1) (L.set i (some (.inr x))) st σ) : AW wl y cc nL ret rm em K pc L (.inr x :: st) σ := by
  intro r σ' hK p l e s m args below meth c D cI cZ cD A hC ad H locs ls hP hD hS hl
  cases x with
  | none => exact lv_astore_nN hC.1 hC.2.1 hd hi hl.has hn rfl (fun ls' h' => k r σ' hK p l e s m args below meth c D cI cZ cD A hC ad H locs ls' hP hD hS (lvs.set (v := .inr none) h'))
  | some a => exact lv_astore_n hC.1 hC.2.1 hd hi hl.has hn rfl (fun ls' h' => k r σ' hK p l e s m args below meth c D cI cZ cD A hC ad H locs ls' hP hD hS (lvs.set (v := .inr (some a)) h'))
theorem aw_astore {i : Nat} {x : Option Nat} (hd : decode cc pc = .ok (.astore i, 2)) (hn : i < nL) (k : AW wl y cc nL ret rm em K (pc + 2) (L.set i (some (.inr x))) st σ) : AW wl y cc nL ret rm em K pc L (.inr x :: st) σ := by
  intro r σ' hK p l e s m args below meth c D cI cZ cD A hC ad H locs ls hP hD hS hl
  cases x with
  | none => exact lv_astoreN hC.1 hC.2.1 hd hl.has hn rfl (fun ls' h' => k r σ' hK p l e s m args below meth c D cI cZ cD A hC ad H locs ls' hP hD hS (lvs.set (v := .inr none) h'))
  | some a => exact lv_astore hC.1 hC.2.1 hd hl.has hn rfl (fun ls' h' => k r σ' hK p l e s m args below meth c D cI cZ cD A hC ad H locs ls' hP hD hS (lvs.set (v := .inr (some a)) h'))
theorem aw_iinc {i : Nat} {n : Int} {x v : Int32} (hd : decode cc pc = .ok (.iinc i n, 3)) (hL : L[i]? = some (some (.inl x))) (hv : Int32.ofInt n = v) (hn : i < nL) (k : AW wl y cc nL ret rm em K (pc + 3) (L.set i (some (.inl (x + v)))) st σ) : AW wl y cc nL ret rm em K pc L st σ := by
  intro r σ' hK p l e s m args below meth c D cI cZ cD A hC ad H locs ls hP hD hS hl
  subst hv
  obtain ⟨q, hq⟩ := List.getElem?_of_mem (lva_mem.mpr ⟨_, hL, rfl⟩ : (i, av_v ad (.inl x)) ∈ lva ad L)
  exact lv_iinc hC.1 hC.2.1 hd hl.has hq rfl hn rfl (fun ls' h' => k r σ' hK p l e s m args below meth c D cI cZ cD A hC ad H locs ls' hP hD hS (lvs.set (v := .inl (x + Int32.ofInt n)) h'))
-- ==== core2 ====
theorem aw_iadd {x z : Int32} (hd : decode cc pc = .ok (.iadd, 1)) (k : AW wl y cc nL ret rm em K (pc + 1) L (.inl (x + z) :: st) σ) : AW wl y cc nL ret rm em K pc L (.inl z :: .inl x :: st) σ := by
  intro r σ' hK p l e s m args below meth c D cI cZ cD A hC ad H locs ls hP hD hS hl
  exact lv_iadd hC.1 hC.2.1 hd (k r σ' hK p l e s m args below meth c D cI cZ cD A hC ad H locs ls hP hD hS hl)
theorem aw_isub {x z : Int32} (hd : decode cc pc = .ok (.isub, 1)) (k : AW wl y cc nL ret rm em K (pc + 1) L (.inl (x - z) :: st) σ) : AW wl y cc nL ret rm em K pc L (.inl z :: .inl x :: st) σ := by
  intro r σ' hK p l e s m args below meth c D cI cZ cD A hC ad H locs ls hP hD hS hl
  exact lv_isub hC.1 hC.2.1 hd (k r σ' hK p l e s m args below meth c D cI cZ cD A hC ad H locs ls hP hD hS hl)
theorem aw_imul {x z : Int32} (hd : decode cc pc = .ok (.imul, 1)) (k : AW wl y cc nL ret rm em K (pc + 1) L (.inl (x * z) :: st) σ) : AW wl y cc nL ret rm em K pc L (.inl z :: .inl x :: st) σ := by
  intro r σ' hK p l e s m args below meth c D cI cZ cD A hC ad H locs ls hP hD hS hl
  exact lv_imul hC.1 hC.2.1 hd (k r σ' hK p l e s m args below meth c D cI cZ cD A hC ad H locs ls hP hD hS hl)
theorem aw_iand {x z : Int32} (hd : decode cc pc = .ok (.iand, 1)) (k : AW wl y cc nL ret rm em K (pc + 1) L (.inl (x &&& z) :: st) σ) : AW wl y cc nL ret rm em K pc L (.inl z :: .inl x :: st) σ := by
  intro r σ' hK p l e s m args below meth c D cI cZ cD A hC ad H locs ls hP hD hS hl
  exact lv_iand hC.1 hC.2.1 hd (k r σ' hK p l e s m args below meth c D cI cZ cD A hC ad H locs ls hP hD hS hl)
theorem aw_ior {x z : Int32} (hd : decode cc pc = .ok (.ior, 1)) (k : AW wl y cc nL ret rm em K (pc + 1) L (.inl (x ||| z) :: st) σ) : AW wl y cc nL ret rm em K pc L (.inl z :: .inl x :: st) σ := by
  intro r σ' hK p l e s m args below meth c D cI cZ cD A hC ad H locs ls hP hD hS hl
  exact lv_ior hC.1 hC.2.1 hd (k r σ' hK p l e s m args below meth c D cI cZ cD A hC ad H locs ls hP hD hS hl)
theorem aw_ixor {x z : Int32} (hd : decode cc pc = .ok (.ixor, 1)) (k : AW wl y cc nL ret rm em K (pc + 1) L (.inl (x ^^^ z) :: st) σ) : AW wl y cc nL ret rm em K pc L (.inl z :: .inl x :: st) σ := by
  intro r σ' hK p l e s m args below meth c D cI cZ cD A hC ad H locs ls hP hD hS hl
  exact lv_ixor hC.1 hC.2.1 hd (k r σ' hK p l e s m args below meth c D cI cZ cD A hC ad H locs ls hP hD hS hl)
theorem aw_ishl {x z : Int32} (hd : decode cc pc = .ok (.ishl, 1)) (k : AW wl y cc nL ret rm em K (pc + 1) L (.inl (x <<< (z &&& 31)) :: st) σ) : AW wl y cc nL ret rm em K pc L (.inl z :: .inl x :: st) σ := by
  intro r σ' hK p l e s m args below meth c D cI cZ cD A hC ad H locs ls hP hD hS hl
  exact lv_ishl hC.1 hC.2.1 hd (k r σ' hK p l e s m args below meth c D cI cZ cD A hC ad H locs ls hP hD hS hl)
theorem aw_ishr {x z : Int32} (hd : decode cc pc = .ok (.ishr, 1)) (k : AW wl y cc nL ret rm em K (pc + 1) L (.inl (x >>> (z &&& 31)) :: st) σ) : AW wl y cc nL ret rm em K pc L (.inl z :: .inl x :: st) σ := by
  intro r σ' hK p l e s m args below meth c D cI cZ cD A hC ad H locs ls hP hD hS hl
  exact lv_ishr hC.1 hC.2.1 hd (k r σ' hK p l e s m args below meth c D cI cZ cD A hC ad H locs ls hP hD hS hl)
theorem aw_ineg {x : Int32} (hd : decode cc pc = .ok (.ineg, 1)) (k : AW wl y cc nL ret rm em K (pc + 1) L (.inl (-x) :: st) σ) : AW wl y cc nL ret rm em K pc L (.inl x :: st) σ := by
  intro r σ' hK p l e s m args below meth c D cI cZ cD A hC ad H locs ls hP hD hS hl
  exact lv_ineg hC.1 hC.2.1 hd (k r σ' hK p l e s m args below meth c D cI cZ cD A hC ad H locs ls hP hD hS hl)
theorem aw_idiv {x z : Int32} (hd : decode cc pc = .ok (.idiv, 1)) (hz : ¬ z = 0) (k : AW wl y cc nL ret rm em K (pc + 1) L (.inl (x / z) :: st) σ) : AW wl y cc nL ret rm em K pc L (.inl z :: .inl x :: st) σ := by
  intro r σ' hK p l e s m args below meth c D cI cZ cD A hC ad H locs ls hP hD hS hl
  exact lv_idiv hC.1 hC.2.1 hd hz (k r σ' hK p l e s m args below meth c D cI cZ cD A hC ad H locs ls hP hD hS hl)
theorem aw_idivC {x z : Int32} {d : Decidable (z = 0)} (hd : decode cc pc = .ok (.idiv, 1)) (k : ¬ z = 0 → AW wl y cc nL ret rm em K (pc + 1) L (.inl (x / z) :: st) σ) : AW wl y cc nL ret rm em (@ite _ (z = 0) d none K) pc L (.inl z :: .inl x :: st) σ := aw_if (fun _ => aw_none) (fun h => aw_idiv hd h (k h))
theorem aw_irem {x z : Int32} (hd : decode cc pc = .ok (.irem, 1)) (hz : ¬ z = 0) (k : AW wl y cc nL ret rm em K (pc + 1) L (.inl (x - x / z * z) :: st) σ) : AW wl y cc nL ret rm em K pc L (.inl z :: .inl x :: st) σ := by
  intro r σ' hK p l e s m args below meth c D cI cZ cD A hC ad H locs ls hP hD hS hl
  exact lv_irem hC.1 hC.2.1 hd hz (k r σ' hK p l e s m args below meth c D cI cZ cD A hC ad H locs ls hP hD hS hl)
theorem aw_iremC {x z : Int32} {d : Decidable (z = 0)} (hd : decode cc pc = .ok (.irem, 1)) (k : ¬ z = 0 → AW wl y cc nL ret rm em K (pc + 1) L (.inl (x - x / z * z) :: st) σ) : AW wl y cc nL ret rm em (@ite _ (z = 0) d none K) pc L (.inl z :: .inl x :: st) σ := aw_if (fun _ => aw_none) (fun h => aw_irem hd h (k h))
theorem aw_if_eq {x : Int32} {d : Decidable (x = 0)} {off : Int} {tgt : Nat} (hd : decode cc pc = .ok (.ifCond .eq off, 3)) (ht : (pc : Int) + off = (tgt : Int)) (kt : x = 0 → AW wl y cc nL ret rm em K1 tgt L st σ) (kf : ¬ x = 0 → AW wl y cc nL ret rm em K2 (pc + 3) L st σ) : AW wl y cc nL ret rm em (@ite _ (x = 0) d K1 K2) pc L (.inl x :: st) σ := by
  intro r σ' hK p l e s m args below meth c D cI cZ cD A hC ad H locs ls hP hD hS hl
  exact lv_if_eq hC.1 hC.2.1 hd ht (fun h => kt h r σ' ((if_pos h).symm.trans hK) p l e s m args below meth c D cI cZ cD A hC ad H locs ls hP hD hS hl) (fun h => kf h r σ' ((if_neg h).symm.trans hK) p l e s m args below meth c D cI cZ cD A hC ad H locs ls hP hD hS hl)
theorem aw_icmp_eq {x z : Int32} {d : Decidable (x = z)} {off : Int} {tgt : Nat} (hd : decode cc pc = .ok (.if_icmp .eq off, 3)) (ht : (pc : Int) + off = (tgt : Int)) (kt : x = z → AW wl y cc nL ret rm em K1 tgt L st σ) (kf : ¬ x = z → AW wl y cc nL ret rm em K2 (pc + 3) L st σ) : AW wl y cc nL ret rm em (@ite _ (x = z) d K1 K2) pc L (.inl z :: .inl x :: st) σ := by
  intro r σ' hK p l e s m args below meth c D cI cZ cD A hC ad H locs ls hP hD hS hl
  exact lv_icmp_eq hC.1 hC.2.1 hd ht (fun h => kt h r σ' ((if_pos h).symm.trans hK) p l e s m args below meth c D cI cZ cD A hC ad H locs ls hP hD hS hl) (fun h => kf h r σ' ((if_neg h).symm.trans hK) p l e s m args below meth c D cI cZ cD A hC ad H locs ls hP hD hS hl)
theorem aw_if_ne {x : Int32} {d : Decidable (x = 0)} {off : Int} {tgt : Nat} (hd : decode cc pc = .ok (.ifCond .ne off, 3)) (ht : (pc : Int) + off = (tgt : Int)) (kf : x = 0 → AW wl y cc nL ret rm em K1 (pc + 3) L st σ) (kt : ¬ x = 0 → AW wl y cc nL ret rm em K2 tgt L st σ) : AW wl y cc nL ret rm em (@ite _ (x = 0) d K1 K2) pc L (.inl x :: st) σ := by
  intro r σ' hK p l e s m args below meth c D cI cZ cD A hC ad H locs ls hP hD hS hl
  exact lv_if_ne hC.1 hC.2.1 hd ht (fun h => kt h r σ' ((if_neg h).symm.trans hK) p l e s m args below meth c D cI cZ cD A hC ad H locs ls hP hD hS hl) (fun h => kf h r σ' ((if_pos h).symm.trans hK) p l e s m args below meth c D cI cZ cD A hC ad H locs ls hP hD hS hl)
theorem aw_icmp_ne {x z : Int32} {d : Decidable (x = z)} {off : Int} {tgt : Nat} (hd : decode cc pc = .ok (.if_icmp .ne off, 3)) (ht : (pc : Int) + off = (tgt : Int)) (kf : x = z → AW wl y cc nL ret rm em K1 (pc + 3) L st σ) (kt : ¬ x = z → AW wl y cc nL ret rm em K2 tgt L st σ) : AW wl y cc nL ret rm em (@ite _ (x = z) d K1 K2) pc L (.inl z :: .inl x :: st) σ := by
  intro r σ' hK p l e s m args below meth c D cI cZ cD A hC ad H locs ls hP hD hS hl
  exact lv_icmp_ne hC.1 hC.2.1 hd ht (fun h => kt h r σ' ((if_neg h).symm.trans hK) p l e s m args below meth c D cI cZ cD A hC ad H locs ls hP hD hS hl) (fun h => kf h r σ' ((if_pos h).symm.trans hK) p l e s m args below meth c D cI cZ cD A hC ad H locs ls hP hD hS hl)
theorem aw_if_lt {x : Int32} {d : Decidable (x < 0)} {off : Int} {tgt : Nat} (hd : decode cc pc = .ok (.ifCond .lt off, 3)) (ht : (pc : Int) + off = (tgt : Int)) (kt : x < 0 → AW wl y cc nL ret rm em K1 tgt L st σ) (kf : ¬ x < 0 → AW wl y cc nL ret rm em K2 (pc + 3) L st σ) : AW wl y cc nL ret rm em (@ite _ (x < 0) d K1 K2) pc L (.inl x :: st) σ := by
  intro r σ' hK p l e s m args below meth c D cI cZ cD A hC ad H locs ls hP hD hS hl
  exact lv_if_lt hC.1 hC.2.1 hd ht (fun h => kt h r σ' ((if_pos h).symm.trans hK) p l e s m args below meth c D cI cZ cD A hC ad H locs ls hP hD hS hl) (fun h => kf h r σ' ((if_neg h).symm.trans hK) p l e s m args below meth c D cI cZ cD A hC ad H locs ls hP hD hS hl)
theorem aw_icmp_lt {x z : Int32} {d : Decidable (x < z)} {off : Int} {tgt : Nat} (hd : decode cc pc = .ok (.if_icmp .lt off, 3)) (ht : (pc : Int) + off = (tgt : Int)) (kt : x < z → AW wl y cc nL ret rm em K1 tgt L st σ) (kf : ¬ x < z → AW wl y cc nL ret rm em K2 (pc + 3) L st σ) : AW wl y cc nL ret rm em (@ite _ (x < z) d K1 K2) pc L (.inl z :: .inl x :: st) σ := by
  intro r σ' hK p l e s m args below meth c D cI cZ cD A hC ad H locs ls hP hD hS hl
  exact lv_icmp_lt hC.1 hC.2.1 hd ht (fun h => kt h r σ' ((if_pos h).symm.trans hK) p l e s m args below meth c D cI cZ cD A hC ad H locs ls hP hD hS hl) (fun h => kf h r σ' ((if_neg h).symm.trans hK) p l e s m args below meth c D cI cZ cD A hC ad H locs ls hP hD hS hl)
theorem aw_if_ge {x : Int32} {d : Decidable (0 ≤ x)} {off : Int} {tgt : Nat} (hd : decode cc pc = .ok (.ifCond .ge off, 3)) (ht : (pc : Int) + off = (tgt : Int)) (kt : 0 ≤ x → AW wl y cc nL ret rm em K1 tgt L st σ) (kf : ¬ 0 ≤ x → AW wl y cc nL ret rm em K2 (pc + 3) L st σ) : AW wl y cc nL ret rm em (@ite _ (0 ≤ x) d K1 K2) pc L (.inl x :: st) σ := by
  intro r σ' hK p l e s m args below meth c D cI cZ cD A hC ad H locs ls hP hD hS hl
  exact lv_if_ge hC.1 hC.2.1 hd ht (fun h => kt h r σ' ((if_pos h).symm.trans hK) p l e s m args below meth c D cI cZ cD A hC ad H locs ls hP hD hS hl) (fun h => kf h r σ' ((if_neg h).symm.trans hK) p l e s m args below meth c D cI cZ cD A hC ad H locs ls hP hD hS hl)
theorem aw_icmp_ge {x z : Int32} {d : Decidable (z ≤ x)} {off : Int} {tgt : Nat} (hd : decode cc pc = .ok (.if_icmp .ge off, 3)) (ht : (pc : Int) + off = (tgt : Int)) (kt : z ≤ x → AW wl y cc nL ret rm em K1 tgt L st σ) (kf : ¬ z ≤ x → AW wl y cc nL ret rm em K2 (pc + 3) L st σ) : AW wl y cc nL ret rm em (@ite _ (z ≤ x) d K1 K2) pc L (.inl z :: .inl x :: st) σ := by
  intro r σ' hK p l e s m args below meth c D cI cZ cD A hC ad H locs ls hP hD hS hl
  exact lv_icmp_ge hC.1 hC.2.1 hd ht (fun h => kt h r σ' ((if_pos h).symm.trans hK) p l e s m args below meth c D cI cZ cD A hC ad H locs ls hP hD hS hl) (fun h => kf h r σ' ((if_neg h).symm.trans hK) p l e s m args below meth c D cI cZ cD A hC ad H locs ls hP hD hS hl)
theorem aw_if_gt {x : Int32} {d : Decidable (0 < x)} {off : Int} {tgt : Nat} (hd : decode cc pc = .ok (.ifCond .gt off, 3)) (ht : (pc : Int) + off = (tgt : Int)) (kt : 0 < x → AW wl y cc nL ret rm em K1 tgt L st σ) (kf : ¬ 0 < x → AW wl y cc nL ret rm em K2 (pc + 3) L st σ) : AW wl y cc nL ret rm em (@ite _ (0 < x) d K1 K2) pc L (.inl x :: st) σ := by
  intro r σ' hK p l e s m args below meth c D cI cZ cD A hC ad H locs ls hP hD hS hl
  exact lv_if_gt hC.1 hC.2.1 hd ht (fun h => kt h r σ' ((if_pos h).symm.trans hK) p l e s m args below meth c D cI cZ cD A hC ad H locs ls hP hD hS hl) (fun h => kf h r σ' ((if_neg h).symm.trans hK) p l e s m args below meth c D cI cZ cD A hC ad H locs ls hP hD hS hl)
theorem aw_icmp_gt {x z : Int32} {d : Decidable (z < x)} {off : Int} {tgt : Nat} (hd : decode cc pc = .ok (.if_icmp .gt off, 3)) (ht : (pc : Int) + off = (tgt : Int)) (kt : z < x → AW wl y cc nL ret rm em K1 tgt L st σ) (kf : ¬ z < x → AW wl y cc nL ret rm em K2 (pc + 3) L st σ) : AW wl y cc nL ret rm em (@ite _ (z < x) d K1 K2) pc L (.inl z :: .inl x :: st) σ := by
  intro r σ' hK p l e s m args below meth c D cI cZ cD A hC ad H locs ls hP hD hS hl
  exact lv_icmp_gt hC.1 hC.2.1 hd ht (fun h => kt h r σ' ((if_pos h).symm.trans hK) p l e s m args below meth c D cI cZ cD A hC ad H locs ls hP hD hS hl) (fun h => kf h r σ' ((if_neg h).symm.trans hK) p l e s m args below meth c D cI cZ cD A hC ad H locs ls hP hD hS hl)
theorem aw_if_le {x : Int32} {d : Decidable (x ≤ 0)} {off : Int} {tgt : Nat} (hd : decode cc pc = .ok (.ifCond .le off, 3)) (ht : (pc : Int) + off = (tgt : Int)) (kt : x ≤ 0 → AW wl y cc nL ret rm em K1 tgt L st σ) (kf : ¬ x ≤ 0 → AW wl y cc nL ret rm em K2 (pc + 3) L st σ) : AW wl y cc nL ret rm em (@ite _ (x ≤ 0) d K1 K2) pc L (.inl x :: st) σ := by
  intro r σ' hK p l e s m args below meth c D cI cZ cD A hC ad H locs ls hP hD hS hl
  exact lv_if_le hC.1 hC.2.1 hd ht (fun h => kt h r σ' ((if_pos h).symm.trans hK) p l e s m args below meth c D cI cZ cD A hC ad H locs ls hP hD hS hl) (fun h => kf h r σ' ((if_neg h).symm.trans hK) p l e s m args below meth c D cI cZ cD A hC ad H locs ls hP hD hS hl)
theorem aw_icmp_le {x z : Int32} {d : Decidable (x ≤ z)} {off : Int} {tgt : Nat} (hd : decode cc pc = .ok (.if_icmp .le off, 3)) (ht : (pc : Int) + off = (tgt : Int)) (kt : x ≤ z → AW wl y cc nL ret rm em K1 tgt L st σ) (kf : ¬ x ≤ z → AW wl y cc nL ret rm em K2 (pc + 3) L st σ) : AW wl y cc nL ret rm em (@ite _ (x ≤ z) d K1 K2) pc L (.inl z :: .inl x :: st) σ := by
  intro r σ' hK p l e s m args below meth c D cI cZ cD A hC ad H locs ls hP hD hS hl
  exact lv_icmp_le hC.1 hC.2.1 hd ht (fun h => kt h r σ' ((if_pos h).symm.trans hK) p l e s m args below meth c D cI cZ cD A hC ad H locs ls hP hD hS hl) (fun h => kf h r σ' ((if_neg h).symm.trans hK) p l e s m args below meth c D cI cZ cD A hC ad H locs ls hP hD hS hl)
theorem aw_goto {off : Int} {tgt : Nat} (hd : decode cc pc = .ok (.goto off, 3)) (ht : (pc : Int) + off = (tgt : Int)) (k : AW wl y cc nL ret rm em K tgt L st σ) : AW wl y cc nL ret rm em K pc L st σ := by
  intro r σ' hK p l e s m args below meth c D cI cZ cD A hC ad H locs ls hP hD hS hl
  exact lv_goto hC.1 hC.2.1 hd ht (k r σ' hK p l e s m args below meth c D cI cZ cD A hC ad H locs ls hP hD hS hl)
theorem aw_dup {v : AV} (hd : decode cc pc = .ok (.dup, 1)) (k : AW wl y cc nL ret rm em K (pc + 1) L (v :: v :: st) σ) : AW wl y cc nL ret rm em K pc L (v :: st) σ := by
  intro r σ' hK p l e s m args below meth c D cI cZ cD A hC ad H locs ls hP hD hS hl
  exact lv_dup hC.1 hC.2.1 hd (av_cat ad v) (k r σ' hK p l e s m args below meth c D cI cZ cD A hC ad H locs ls hP hD hS hl)
theorem aw_dup2 {v w : AV} (hd : decode cc pc = .ok (.dup2, 1)) (k : AW wl y cc nL ret rm em K (pc + 1) L (v :: w :: v :: w :: st) σ) : AW wl y cc nL ret rm em K pc L (v :: w :: st) σ := by
  intro r σ' hK p l e s m args below meth c D cI cZ cD A hC ad H locs ls hP hD hS hl
  exact lv_dup2_11 hC.1 hC.2.1 hd (av_cat ad v) (av_cat ad w) (k r σ' hK p l e s m args below meth c D cI cZ cD A hC ad H locs ls hP hD hS hl)
theorem aw_pop {v : AV} (hd : decode cc pc = .ok (.pop, 1)) (k : AW wl y cc nL ret rm em K (pc + 1) L st σ) : AW wl y cc nL ret rm em K pc L (v :: st) σ := by
  intro r σ' hK p l e s m args below meth c D cI cZ cD A hC ad H locs ls hP hD hS hl
  exact lv_pop hC.1 hC.2.1 hd (av_cat ad v) (k r σ' hK p l e s m args below meth c D cI cZ cD A hC ad H locs ls hP hD hS hl)
theorem aw_ifnull {x : Option Nat} {d : Decidable (x = none)} {off : Int} {tgt : Nat} (hd : decode cc pc = .ok (.ifnull off, 3)) (ht : (pc : Int) + off = (tgt : Int)) (kt : x = none → AW wl y cc nL ret rm em K1 tgt L st σ) (kf : ¬ x = none → AW wl y cc nL ret rm em K2 (pc + 3) L st σ) : AW wl y cc nL ret rm em (@ite _ (x = none) d K1 K2) pc L (.inr x :: st) σ := by
  intro r σ' hK p l e s m args below meth c D cI cZ cD A hC ad H locs ls hP hD hS hl
  cases x with
  | none => exact lv_ifnullN hC.1 hC.2.1 hd ht (kt rfl r σ' ((if_pos rfl).symm.trans hK) p l e s m args below meth c D cI cZ cD A hC ad H locs ls hP hD hS hl)
  | some a => exact lv_ifnull hC.1 hC.2.1 hd (kf (by simp) r σ' ((if_neg (by simp)).symm.trans hK) p l e s m args below meth c D cI cZ cD A hC ad H locs ls hP hD hS hl)
theorem aw_ifnonnull {x : Option Nat} {d : Decidable (x = none)} {off : Int} {tgt : Nat} (hd : decode cc pc = .ok (.ifnonnull off, 3)) (ht : (pc : Int) + off = (tgt : Int)) (kf : x = none → AW wl y cc nL ret rm em K1 (pc + 3) L st σ) (kt : ¬ x = none → AW wl y cc nL ret rm em K2 tgt L st σ) : AW wl y cc nL ret rm em (@ite _ (x = none) d K1 K2) pc L (.inr x :: st) σ := by
  intro r σ' hK p l e s m args below meth c D cI cZ cD A hC ad H locs ls hP hD hS hl
  cases x with
  | none => exact lv_ifnonnullN hC.1 hC.2.1 hd (kf rfl r σ' ((if_pos rfl).symm.trans hK) p l e s m args below meth c D cI cZ cD A hC ad H locs ls hP hD hS hl)
  | some a => exact lv_ifnonnull hC.1 hC.2.1 hd ht (kt (by simp) r σ' ((if_neg (by simp)).symm.trans hK) p l e s m args below meth c D cI cZ cD A hC ad H locs ls hP hD hS hl)
theorem aw_ret_i {v : Int32} {rr : ρ} (hem : em rr = some (.inl v)) {ty : FieldType} (hr : ret = some ty) (hn : narrow ty (.int v) = .int v) (hd : decode cc pc = .ok (.ireturn, 1)) : AW wl y cc nL ret rm em (some (rr, σ)) pc L [.inl v] σ := by
  intro r σ' hK p l e s m args below meth c D cI cZ cD A hC ad H locs ls hP hD hS hl
  cases hK
  refine W.zret hC.1 hC.2.1 (hC.2.2.1.trans hr) hn (fun t ht hW => ?_) hS.2.2 hd hC.2.2.2.2.2.2.1
  exact ⟨by rw [hem]; rfl, by rw [ht]; exact hP, va_K.moved hW.alike hC.2.2.2.2.2.2.2.1, hD, hS.F ht⟩
theorem aw_ret_v {rr : ρ} (hem : em rr = none) (hr : ret = none) (hd : decode cc pc = .ok (.return_, 1)) : AW wl y cc nL ret rm em (some (rr, σ)) pc L [] σ := by
  intro r σ' hK p l e s m args below meth c D cI cZ cD A hC ad H locs ls hP hD hS hl
  cases hK
  refine W.vret hC.1 hC.2.1 (hC.2.2.1.trans hr) (fun t ht hW => ?_) hS.2.2 hd hC.2.2.2.2.2.2.1
  exact ⟨by rw [hem]; rfl, by rw [ht]; exact hP, va_K.moved hW.alike hC.2.2.2.2.2.2.2.1, hD, hS.F ht⟩
theorem aw_ret_a {v : Option Nat} {rr : ρ} (hem : em rr = some (.inr v)) {C : String} (hr : ret = some (.object C)) (hd : decode cc pc = .ok (.areturn, 1)) : AW wl y cc nL ret rm em (some (rr, σ)) pc L [.inr v] σ := by
  intro r σ' hK p l e s m args below meth c D cI cZ cD A hC ad H locs ls hP hD hS hl
  cases hK
  refine W.aret (v := va_rf (v.map ad)) hC.1 hC.2.1 (hC.2.2.1.trans hr) (Or.inl ⟨C, rfl⟩) (va_rf_or _) (fun t ht hW => ?_) hS.2.2 hd hC.2.2.2.2.2.2.1
  exact ⟨by rw [hem]; rfl, by rw [ht]; exact hP, va_K.moved hW.alike hC.2.2.2.2.2.2.2.1, hD, hS.F ht⟩
theorem aw_get {idx k ci j : Nat} {fs : List AV} {v : AV} (hF : FieldOK y.cls idx ci j) (hO : ObjAt wl σ k ci fs) (hv : fs[j]? = some v) (hd : decode cc pc = .ok (.getfield idx, 3)) (kk : AW wl y cc nL ret rm em K (pc + 3) L (v :: st) σ) : AW wl y cc nL ret rm em K pc L (.inr (some k) :: st) σ := by
  intro r σ' hK p l e s m args below meth c D cI cZ cD A hC ad H locs ls hP hD hS hl
  obtain ⟨C, T, N, h1, h2, h3, h4⟩ := hF
  have hts : ∀ w ∈ WT, w.before args s = true := fun w hw => hC.2.2.2.1 w (List.mem_cons_of_mem _ hw)
  exact va_get (D := D) (ci := ci) (v := av_v ad v) (C := C) (T := T) (N := N) hC.1 hC.2.1 hts h3 hC.2.2.2.2.1 hC.2.2.2.2.2.2.2.1 hP k (hO cI cZ cD ad) h1 j h2 (hts _ h4) (fun _ h9 => h9) (by rw [List.getElem?_map, hv]; rfl) hd (kk r σ' hK p l e s m args below meth c D cI cZ cD A hC ad H locs ls hP hD hS hl)
theorem aw_put {idx k ci j : Nat} {fs : List AV} {v : AV} {ty : FieldType} {σ2 : ST} (hF : FieldW y.cls idx ci j ty) (hO : ObjAt wl σ k ci fs) (hj : j < fs.length) (hn : ∀ ad, narrow ty (av_v ad v) = av_v ad v) (hfit : ∀ ad, fits ty (av_v ad v) = true) (hs : ∀ cI cZ cD ad, (wl cI cZ cD ad σ).set k (ad k, .inr (ci, (fs.set j v).map (av_v ad))) = wl cI cZ cD ad σ2) (hd : decode cc pc = .ok (.putfield idx, 3)) (kk : AW wl y cc nL ret rm em K (pc + 3) L st σ2) : AW wl y cc nL ret rm em K pc L (v :: .inr (some k) :: st) σ := by
  intro r σ' hK p l e s m args below meth c D cI cZ cD A hC ad H locs ls hP hD hS hl
  obtain ⟨C, T, N, ty0, h1, h2, h3, h4, h5, h6, h7, h8⟩ := hF
  have hts : ∀ w ∈ WT, w.before args s = true := fun w hw => hC.2.2.2.1 w (List.mem_cons_of_mem _ hw)
  refine va_put (D := D) (ci := ci) (v := av_v ad v) (ty := ty) (C := C) (T := T) (N := N) hC.1 hC.2.1 hts h3 ty0 h5 h6 hC.2.2.2.2.1 hC.2.2.2.2.2.2.2.1 hP hD hS k (hO cI cZ cD ad) h1 j h2 (hts _ h4) (fun _ h9 => h9) h7 h8 (hn ad) (hfit ad) (by rw [List.length_map]; exact hj) hd (fun H1 locs1 hP1 hD1 hS1 => ?_)
  rw [← List.map_set, hs] at hP1 hD1
  exact kk r σ' hK p l e s m args below meth c D cI cZ cD A hC ad H1 locs1 ls hP1 hD1 hS1 hl
theorem aw_iald {k n : Nat} {f : Nat → Int32} {i : Int32} {d : Decidable (ib i n = true)} (hI : IntAt wl σ k n f) (hd : decode cc pc = .ok (.iaload, 1)) (kk : ib i n = true → AW wl y cc nL ret rm em K (pc + 1) L (.inl (f i.toNatClampNeg) :: st) σ) : AW wl y cc nL ret rm em (@ite _ (ib i n = true) d K none) pc L (.inl i :: .inr (some k) :: st) σ := by
  refine aw_chk (fun h => ?_)
  intro r σ' hK p l e s m args below meth c D cI cZ cD A hC ad H locs ls hP hD hS hl
  exact va_iald (D := D) hC.1 hC.2.1 hC.2.2.2.2.2.2.2.1 hP k 0 (hI cI cZ cD ad) rfl (ib_in h) hd (kk h r σ' hK p l e s m args below meth c D cI cZ cD A hC ad H locs ls hP hD hS hl)
theorem aw_bald {k n : Nat} {f : Nat → Int32} {i : Int32} {d : Decidable (ib i n = true)} (hI : BoolAt wl σ k n f) (hd : decode cc pc = .ok (.baload, 1)) (kk : ib i n = true → AW wl y cc nL ret rm em K (pc + 1) L (.inl (f i.toNatClampNeg) :: st) σ) : AW wl y cc nL ret rm em (@ite _ (ib i n = true) d K none) pc L (.inl i :: .inr (some k) :: st) σ := by
  refine aw_chk (fun h => ?_)
  intro r σ' hK p l e s m args below meth c D cI cZ cD A hC ad H locs ls hP hD hS hl
  exact va_zald (D := D) hC.1 hC.2.1 hC.2.2.2.2.2.2.2.1 hP k 1 (hI cI cZ cD ad) rfl (ib_in h) hd (kk h r σ' hK p l e s m args below meth c D cI cZ cD A hC ad H locs ls hP hD hS hl)
theorem aw_aald {k n : Nat} {f : Nat → Option Nat} {i : Int32} {d : Decidable (ib i n = true)} (hI : RefAt wl σ k n f) (hd : decode cc pc = .ok (.aaload, 1)) (kk : ib i n = true → AW wl y cc nL ret rm em K (pc + 1) L (.inr (f i.toNatClampNeg) :: st) σ) : AW wl y cc nL ret rm em (@ite _ (ib i n = true) d K none) pc L (.inl i :: .inr (some k) :: st) σ := by
  refine aw_chk (fun h => ?_)
  intro r σ' hK p l e s m args below meth c D cI cZ cD A hC ad H locs ls hP hD hS hl
  exact va_aldq (D := D) hC.1 hC.2.1 hC.2.2.2.2.2.2.2.1 hP k 2 (hI cI cZ cD ad) rfl (ib_in h) hd (kk h r σ' hK p l e s m args below meth c D cI cZ cD A hC ad H locs ls hP hD hS hl)
theorem aw_iast {k n : Nat} {f : Nat → Int32} {i x : Int32} {σ2 : ST} {d : Decidable (ib i n = true)} (hI : IntAt wl σ k n f) (hs : ∀ cI cZ cD ad, (wl cI cZ cD ad σ).set k (ad k, .inl (cI, n, .inl (upd f i.toNatClampNeg x))) = wl cI cZ cD ad σ2) (hd : decode cc pc = .ok (.iastore, 1)) (kk : ib i n = true → AW wl y cc nL ret rm em K (pc + 1) L st σ2) : AW wl y cc nL ret rm em (@ite _ (ib i n = true) d K none) pc L (.inl x :: .inl i :: .inr (some k) :: st) σ := by
  refine aw_chk (fun h => ?_)
  intro r σ' hK p l e s m args below meth c D cI cZ cD A hC ad H locs ls hP hD hS hl
  refine va_iast (D := D) hC.1 hC.2.1 hC.2.2.2.2.2.2.2.1 hP hD hS k 0 (hI cI cZ cD ad) rfl (ib_in h) hd (fun H1 locs1 hP1 hD1 hS1 => ?_)
  rw [hs] at hP1 hD1
  exact kk h r σ' hK p l e s m args below meth c D cI cZ cD A hC ad H1 locs1 ls hP1 hD1 hS1 hl
theorem aw_bast {k n : Nat} {f : Nat → Int32} {i x : Int32} {σ2 : ST} {d : Decidable (ib i n = true)} (hI : BoolAt wl σ k n f) (hs : ∀ cI cZ cD ad, (wl cI cZ cD ad σ).set k (ad k, .inl (cZ, n, .inl (upd f i.toNatClampNeg (vp_nar .boolean x)))) = wl cI cZ cD ad σ2) (hd : decode cc pc = .ok (.bastore, 1)) (kk : ib i n = true → AW wl y cc nL ret rm em K (pc + 1) L st σ2) : AW wl y cc nL ret rm em (@ite _ (ib i n = true) d K none) pc L (.inl x :: .inl i :: .inr (some k) :: st) σ := by
  refine aw_chk (fun h => ?_)
  intro r σ' hK p l e s m args below meth c D cI cZ cD A hC ad H locs ls hP hD hS hl
  refine va_zast (D := D) hC.1 hC.2.1 hC.2.2.2.2.2.2.2.1 hP hD hS k 1 (hI cI cZ cD ad) rfl (ib_in h) hd (fun H1 locs1 hP1 hD1 hS1 => ?_)
  rw [hs] at hP1 hD1
  exact kk h r σ' hK p l e s m args below meth c D cI cZ cD A hC ad H1 locs1 ls hP1 hD1 hS1 hl
theorem aw_acmp_ne {a b : Option Nat} {d : Decidable (a = b)} {off : Int} {tgt : Nat} (ha : ∀ (cI cZ cD : ClassId) (ad : Nat → Nat) (A : Nat → Prop), va_D A (wl cI cZ cD ad σ) → (a.map ad = b.map ad ↔ a = b)) (hd : decode cc pc = .ok (.if_acmp .ne off, 3)) (ht : (pc : Int) + off = (tgt : Int)) (kf : a = b → AW wl y cc nL ret rm em K1 (pc + 3) L st σ) (kt : ¬ a = b → AW wl y cc nL ret rm em K2 tgt L st σ) : AW wl y cc nL ret rm em (@ite _ (a = b) d K1 K2) pc L (.inr b :: .inr a :: st) σ := by
  intro r σ' hK p l e s m args below meth c D cI cZ cD A hC ad H locs ls hP hD hS hl
  have hq := ha cI cZ cD ad A hD
  exact lv_acmp_ne hC.1 hC.2.1 hd ht (fun h => kt (fun e => h (hq.mpr e)) r σ' ((if_neg (fun e => h (hq.mpr e))).symm.trans hK) p l e s m args below meth c D cI cZ cD A hC ad H locs ls hP hD hS hl) (fun h => kf (hq.mp h) r σ' ((if_pos (hq.mp h)).symm.trans hK) p l e s m args below meth c D cI cZ cD A hC ad H locs ls hP hD hS hl)
theorem aw_mmin {idx : Nat} {x z : Int32} (h1 : Cond.methodLink y.cls idx Lib.Math.min.name ∈ WT) (h2 : Cond.static Lib.Math.min.name ∈ WT) (h3 : Cond.initialized "java/lang/Math" ∈ WT) (h4 : Cond.code Lib.Math.min.name Lib.Math.min.code 2 (some .int) ∈ WT) (hf : 1 ≤ rm.frames) (hlo : st.length + 13 ≤ rm.locals) (hd : decode cc pc = .ok (.invokestatic idx, 3)) (k : AW wl y cc nL ret rm em K (pc + 3) L (.inl (if z < x then z else x) :: st) σ) : AW wl y cc nL ret rm em K pc L (.inl z :: .inl x :: st) σ := by
  intro r σ' hK p l e s m args below meth c D cI cZ cD A hC ad H locs ls hP hD hS hl
  have hts : ∀ w ∈ WT, w.before args s = true := fun w hw => hC.2.2.2.1 w (List.mem_cons_of_mem _ hw)
  exact va_mmin hC.1 hC.2.1 (hC.2.2.2.2.2.1.trans hl.1.symm) hC.2.2.2.2.1 (hts _ h1) (hts _ h2) (hts _ h3) (hts _ h4) hf (by rw [av_sum]; exact hlo) (Nat.zero_le _) (Nat.zero_le _) hd (k r σ' hK p l e s m args below meth c D cI cZ cD A hC ad H locs ls hP hD hS hl)
theorem aw_mabs {idx : Nat} {x : Int32} (h1 : Cond.methodLink y.cls idx Lib.Math.abs.name ∈ WT) (h2 : Cond.static Lib.Math.abs.name ∈ WT) (h3 : Cond.initialized "java/lang/Math" ∈ WT) (h4 : Cond.code Lib.Math.abs.name Lib.Math.abs.code 1 (some .int) ∈ WT) (hf : 1 ≤ rm.frames) (hlo : st.length + 13 ≤ rm.locals) (hd : decode cc pc = .ok (.invokestatic idx, 3)) (k : AW wl y cc nL ret rm em K (pc + 3) L (.inl (if 0 ≤ x then x else 0 - x) :: st) σ) : AW wl y cc nL ret rm em K pc L (.inl x :: st) σ := by
  intro r σ' hK p l e s m args below meth c D cI cZ cD A hC ad H locs ls hP hD hS hl
  have hts : ∀ w ∈ WT, w.before args s = true := fun w hw => hC.2.2.2.1 w (List.mem_cons_of_mem _ hw)
  exact va_mabs hC.1 hC.2.1 (hC.2.2.2.2.2.1.trans hl.1.symm) hC.2.2.2.2.1 (hts _ h1) (hts _ h2) (hts _ h3) (hts _ h4) hf (by rw [av_sum]; exact hlo) (Nat.zero_le _) (Nat.zero_le _) hd (k r σ' hK p l e s m args below meth c D cI cZ cD A hC ad H locs ls hP hD hS hl)
end AWR
end
section
-- entry of a method, and calls (own work)
theorem va_A_wl {ws ws' : va_W} {sz : Nat} (h : ws.map Prod.fst = ws'.map Prod.fst) (q : Nat) : va_A ws sz q ↔ va_A ws' sz q := by
  have key : ∀ (w w' : va_W), w.map Prod.fst = w'.map Prod.fst → va_A w sz q → va_A w' sz q := by
    intro w w' hw hq
    rcases hq with ⟨k, e, hk⟩ | hq
    · have h1 : (w.map Prod.fst)[k]? = some q := by rw [List.getElem?_map, hk]; rfl
      rw [hw, List.getElem?_map] at h1
      cases hk' : w'[k]? with
      | none => rw [hk'] at h1; cases h1
      | some qe =>
        rw [hk'] at h1
        have h2 : qe.1 = q := Option.some.inj h1
        exact Or.inl ⟨k, qe.2, by rw [hk', ← h2]⟩
    · exact Or.inr hq
  exact ⟨key _ _ h, key _ _ h.symm⟩
theorem lvs_entry (ad : Nat → Nat) (av : List AV) {nL : Nat} (h : av.length ≤ nL) : lvs ad ((lg_sl (av.map (av_v ad)) ++ List.replicate (nL - (lg_sl (av.map (av_v ad))).length) Slot.unset).toArray) nL (av.map some ++ List.replicate (nL - av.length) none) := by
  have hsl : lg_sl (av.map (av_v ad)) = (av.map (av_v ad)).map Slot.val := by
    unfold lg_sl
    induction av with
    | nil => rfl
    | cons a l ih =>
      have := ih (by simp at h; omega)
      simp only [List.map_cons, List.flatMap_cons, this]
      rw [if_neg (by rw [av_cat]; decide)]
      rfl
  have hlen : (lg_sl (av.map (av_v ad))).length = av.length := by rw [hsl]; simp
  have he := lv_entry (av.map (av_v ad)) (n := nL) (by rw [hlen]; exact h)
  refine ⟨he.1, he.2.1, fun i v hi => ?_⟩
  rw [hsl]
  have hi2 : av[i]? = some v := by
    by_cases hl : i < av.length
    · rw [List.getElem?_append_left (by simpa using hl), List.getElem?_map] at hi
      cases h3 : av[i]? with
      | none => rw [h3] at hi; cases hi
      | some w => rw [h3] at hi; simpa using hi
    · rw [List.getElem?_append_right (by simpa using Nat.not_lt.mp hl)] at hi
      rw [List.getElem?_replicate] at hi
      split at hi <;> simp at hi
  have hl : i < av.length := (List.getElem?_eq_some_iff.mp hi2).1
  rw [List.getElem?_toArray, List.getElem?_append_left (by simpa using hl)]
  simp [hi2]
theorem MS.of {wl : WL} {y : MethodName} {cc : ByteArray} {nL : Nat} {ret : Option FieldType} {rm : Room} {ρ : Type} {em : ρ → Option AV} {K : Option (ρ × ST)} {av : List AV} {σ : ST} (hy : plainName y.cls = true) (hn : av.length ≤ nL) (h : AW wl y cc nL ret rm em K 0 (av.map some ++ List.replicate (nL - av.length) none) [] σ) : MS wl y cc nL ret rm em av σ K := by
  intro r σ' hK l D cI cZ cD ad sz
  refine Met.ofW (cc := cc) (maxL := nL) (ret := ret) hy rfl ?_
  intro p e s m args below meth c s₁ B hml hv
  obtain ⟨rfl, hsz, hP, hKK, hD0⟩ := hv
  subst hsz
  have hD := hD0.self (sz := s.heap.size)
  rw [lg_entry_eq]
  refine h r σ' hK p l e s m _ below meth c D cI cZ cD (va_A (wl cI cZ cD ad σ) s.heap.size) ⟨B.exec, B.bytes, B.returns, atoms_spec (ws := Cond.code y cc nL ret :: WT) B.pre, findClass_of_methodNamed B.named, hml, B.notSynchronized, hKK, fun q hq => Or.inr hq⟩ ad s.heap [] _ hP hD va_S.rf (lvs_entry ad av hn)
section AWC
variable {wl : WL} {y : MethodName} {cc : ByteArray} {nL : Nat} {ret : Option FieldType} {rm : Room} {ρ : Type} {em : ρ → Option AV} {pc : Nat} {L : List (Option AV)} {st : List AV} {σ : ST}
theorem pc_blind {wl : WL} {D : va_G} {cI cZ cD : ClassId} {ad : Nat → Nat} {σ : ST} {sz : Nat} {as : List Value} : FrameBlind (va_Pc as (fun U => U.heap.size = sz ∧ va_P D vwCl (wl cI cZ cD ad σ) U.heap ∧ va_K D vwCl (tys3 cI cZ cD) U ∧ va_D (fun _ => True) (wl cI cZ cD ad σ))) := fun a U g mk q => by
  obtain ⟨q0, q1, qP, qK, qD⟩ := q
  exact ⟨q0, q1, qP, va_K.moved (u := U) (U := U.calling g mk a) (Vm.Alike.refl U.vm) qK, qD⟩
theorem run_next {p : Program} {l : Launch} {e : Env} {s : State} {m : MethodId} {args : Array Value} {below : List Frame} {meth : Method} {c : Code} {H : Heap} {locs : List Loc} {ls : Array Slot} {Q : State → Prop} {D : va_G} {cI cZ cD : ClassId} {ad : Nat → Nat} {A : Nat → Prop} {a : Array Value} {o2 : Option AV} {σ2 : ST} {st0 : List Value} {rest : List Value}
    (hr : va_Run p l e rm s m args below meth c H locs 0 0 0 0 (F0 m pc ls st0) rest (QC wl o2 σ2 D cI cZ cD ad (va_A (wl cI cZ cD ad σ) H.size) a) (va_A (wl cI cZ cD ad σ) H.size))
    (hD : va_D A (wl cI cZ cD ad σ)) (hS : va_S A s.heap H locs) (hA : ∀ q, s.heap.size ≤ q → A q)
    (kk : ∀ (H1 : Heap) (locs1 : List Loc), va_P D vwCl (wl cI cZ cD ad σ2) H1 → va_D A (wl cI cZ cD ad σ2) → va_S A s.heap H1 locs1 → W p l e rm s m args below meth c H1 locs1 0 0 Q (F0 m (pc + 3) ls ((o2.map (av_v ad)).toList ++ rest))) : W p l e rm s m args below meth c H locs 0 0 Q (F0 m pc ls st0) := by
  have hin : ∀ q, va_A (wl cI cZ cD ad σ) H.size q → A q := by
    rintro q (⟨k, e, hk⟩ | hq)
    · exact hD.2 k _ hk
    · exact hA q (Nat.le_trans hS.1 hq)
  intro T hT X
  obtain ⟨v, st₀, t, T', Lc, h0, X', hL, e1, e2, ⟨hv, hP2, hK2, hD2, hz, hk⟩, stp⟩ := hr T hT X
  rw [h0] at hz hk
  have hv' : v = o2.map (av_v ad) := by cases hv; rfl
  subst hv'
  rw [← e1] at hP2 hz hk
  obtain ⟨t2, a1, b1⟩ := kk T'.heap (locs ++ Lc) hP2 (hD2.weaken (fun k q _ h => hin q.1 h))
    ⟨Nat.le_trans hS.1 hz, fun q h1 h2 => by rw [hk q (Nat.lt_of_lt_of_le h1 hS.1) (fun z => h2 (hin q z))]; exact hS.2.1 q h1 h2, fun q hq => by
      rcases List.mem_append.mp hq with h | h
      · exact hS.2.2 q h
      · exact hin _ (hL q h)⟩ T' rfl X'
  exact ⟨t2, stp t2 a1, b1⟩
theorem toL_map (ad : Nat → Nat) (o : Option AV) (st : List AV) : (o.map (av_v ad)).toList ++ st.map (av_v ad) = (o.toList ++ st).map (av_v ad) := by cases o <;> rfl
theorem aw_callV {ρ2 : Type} {em2 : ρ2 → Option AV} {y2 : MethodName} {cc2 : ByteArray} {nL2 : Nat} {ret2 : Option FieldType} {rm2 : Room} {K2 : Option (ρ2 × ST)} {k : ρ2 → ST → Option (ρ × ST)} {as : List AV} {b ci idx : Nat} {fs : List AV} {T : u_T} {N : Nat}
    (hM : MS wl y2 cc2 nL2 ret2 rm2 em2 (.inr (some b) :: as) σ K2) (hO : ObjAt wl σ b ci fs) (hc : vwCl[ci]? = some (y2.cls, T, N)) (hC2 : CallOK y.cls idx y2 cc2 nL2 ret2 as.length) (hR : RoomOK rm rm2 nL2) (hst : st.length ≤ 8) (hd : decode cc pc = .ok (.invokevirtual idx, 3)) {stk : List AV} (hstk : stk = as.reverse ++ .inr (some b) :: st)
    (kk : ∀ r2 σ2, AW wl y cc nL ret rm em (k r2 σ2) (pc + 3) L ((em2 r2).toList ++ st) σ2) : AW wl y cc nL ret rm em (K2.bind (fun q => k q.1 q.2)) pc L stk σ := by
  subst hstk
  intro r σ' hK p l e s m args below meth c D cI cZ cD A hC ad H locs ls hP hD hS hl
  cases hK2 : K2 with
  | none => rw [hK2] at hK; cases hK
  | some q =>
    obtain ⟨r2, σ2⟩ := q
    rw [hK2] at hK
    have hts : ∀ w ∈ (Cond.code y cc nL ret :: WT), w.before args s = true := hC.2.2.2.1
    have ht : ∀ w ∈ WT, w.before args s = true := fun w hw => hts w (List.mem_cons_of_mem _ hw)
    obtain ⟨c1, c2, c3, c4, c5, c6, c7, c8⟩ := hC2
    obtain ⟨R1, R2, R3, R4⟩ := hR
    have hKK := hC.2.2.2.2.2.2.2.1
    have cw : CallW rm s args y.cls y2.cls idx y2 cc2 nL2 ret2 (Cond.code y2 cc2 nL2 ret2 :: WT) rm2 0 0 as.length :=
      ⟨callB_of as.length hts (wt_good c5) rfl R1 R2 (ht _ c4) (ht _ c1) ⟨c6, c7, c8⟩ ⟨R3, R4⟩, ht _ c2, ht _ c3⟩
    have hrun := va_runV (l := l) (e := e) (below := below) (meth := meth) (locs := locs) (cells := 0) (slots := 0) (H := H) (b := ad b) (As := as.map (av_v ad)) (rest := st.map (av_v ad)) (g := F0 m pc ls ((as.reverse ++ .inr (some b) :: st).map (av_v ad)))
      ⟨hC.1, hC.2.1, hC.2.2.2.2.2.1, hC.2.2.2.2.1, hts⟩ (hM r2 σ2 hK2 l D cI cZ cD ad H.size) cw
      ⟨pc_blind, va_recv hKK hP hc (hO cI cZ cD ad), fun U hU hW => ⟨rfl, by rw [hU], by rw [hU]; exact hP, va_K.moved hW.alike hKK, hD.weaken (fun _ _ _ _ => trivial)⟩⟩
      rfl (by simp) hl.1 (by simp [av_v, va_rf]) (lv_room (by rw [av_sum]; exact hst)) hd ⟨Nat.zero_le _, Nat.zero_le _⟩
    refine run_next hrun hD hS hC.2.2.2.2.2.2.2.2 (fun H1 locs1 hP1 hD1 hS1 => ?_)
    rw [toL_map]
    exact kk r2 σ2 r σ' hK p l e s m args below meth c D cI cZ cD A hC ad H1 locs1 ls hP1 hD1 hS1 hl
theorem aw_callS {ρ2 : Type} {em2 : ρ2 → Option AV} {y2 : MethodName} {cc2 : ByteArray} {nL2 : Nat} {ret2 : Option FieldType} {rm2 : Room} {K2 : Option (ρ2 × ST)} {k : ρ2 → ST → Option (ρ × ST)} {as : List AV} {idx : Nat}
    (hM : MS wl y2 cc2 nL2 ret2 rm2 em2 as σ K2) (hC2 : CallSOK y.cls idx y2 cc2 nL2 ret2 as.length) (hR : RoomOK rm rm2 nL2) (hst : st.length ≤ 8) (hd : decode cc pc = .ok (.invokestatic idx, 3)) {stk : List AV} (hstk : stk = as.reverse ++ st)
    (kk : ∀ r2 σ2, AW wl y cc nL ret rm em (k r2 σ2) (pc + 3) L ((em2 r2).toList ++ st) σ2) : AW wl y cc nL ret rm em (K2.bind (fun q => k q.1 q.2)) pc L stk σ := by
  subst hstk
  intro r σ' hK p l e s m args below meth c D cI cZ cD A hC ad H locs ls hP hD hS hl
  cases hK2 : K2 with
  | none => rw [hK2] at hK; cases hK
  | some q =>
    obtain ⟨r2, σ2⟩ := q
    rw [hK2] at hK
    have hts : ∀ w ∈ (Cond.code y cc nL ret :: WT), w.before args s = true := hC.2.2.2.1
    have ht : ∀ w ∈ WT, w.before args s = true := fun w hw => hts w (List.mem_cons_of_mem _ hw)
    obtain ⟨c1, c2, c4, c5, c6, c7, c8⟩ := hC2
    obtain ⟨R1, R2, R3, R4⟩ := hR
    have hKK := hC.2.2.2.2.2.2.2.1
    have cw : CallB rm s args y.cls idx y2 cc2 nL2 ret2 (Cond.code y2 cc2 nL2 ret2 :: WT) rm2 0 0 as.length ∧ (Cond.static y2).before args s = true :=
      ⟨callB_of as.length hts (wt_good c5) rfl R1 R2 (ht _ c4) (ht _ c1) ⟨c6, c7, c8⟩ ⟨R3, R4⟩, ht _ c2⟩
    have hrun := va_runS (l := l) (e := e) (below := below) (meth := meth) (locs := locs) (cells := 0) (slots := 0) (H := H) (As := as.map (av_v ad)) (rest := st.map (av_v ad)) (g := F0 m pc ls ((as.reverse ++ st).map (av_v ad)))
      ⟨hC.1, hC.2.1, hC.2.2.2.2.2.1, hC.2.2.2.2.1, hts⟩ (hM r2 σ2 hK2 l D cI cZ cD ad H.size) cw
      ⟨pc_blind, fun U hU hW => ⟨rfl, by rw [hU], by rw [hU]; exact hP, va_K.moved hW.alike hKK, hD.weaken (fun _ _ _ _ => trivial)⟩⟩
      rfl (by simp) hl.1 (by simp) (lv_room (by rw [av_sum]; exact hst)) hd ⟨Nat.zero_le _, Nat.zero_le _⟩
    refine run_next hrun hD hS hC.2.2.2.2.2.2.2.2 (fun H1 locs1 hP1 hD1 hS1 => ?_)
    rw [toL_map]
    exact kk r2 σ2 r σ' hK p l e s m args below meth c D cI cZ cD A hC ad H1 locs1 ls hP1 hD1 hS1 hl
end AWC
-- loops
def FU : Nat := 1000000000000
def loopN {α β : Type} (body : (α → Option β) → α → Option β) : Nat → α → Option β
  | 0, _ => none
  | n + 1, a => body (loopN body n) a
theorem loopN_succ {α β : Type} (body : (α → Option β) → α → Option β) (n : Nat) (a : α) : loopN body (n + 1) a = body (loopN body n) a := rfl
theorem aw_loop {wl : WL} {y : MethodName} {cc : ByteArray} {nL : Nat} {ret : Option FieldType} {rm : Room} {ρ : Type} {em : ρ → Option AV} {α : Type} {body : (α → Option (ρ × ST)) → α → Option (ρ × ST)} {pc : Nat} {Lf : α → List (Option AV)} {sf : α → ST}
    (h : ∀ k : α → Option (ρ × ST), (∀ a, AW wl y cc nL ret rm em (k a) pc (Lf a) [] (sf a)) → ∀ a, AW wl y cc nL ret rm em (body k a) pc (Lf a) [] (sf a)) : ∀ (n : Nat) (a : α), AW wl y cc nL ret rm em (loopN body n a) pc (Lf a) [] (sf a) := by
  intro n
  induction n with
  | zero => intro a; exact aw_none
  | succ n ih => intro a; exact h _ ih a
end
section
-- printed by gen_world.py: the cells of the two sides, and the words of fields and calls
def stI (σ : ST) (k i : Nat) (x : Int32) : ST := (fun a b => if a = k ∧ b = i then x else σ.1 a b, σ.2)
def stR (σ : ST) (k i : Nat) (x : Option Nat) : ST := (σ.1, fun a b => if a = k ∧ b = i then x else σ.2.1 a b, σ.2.2)
abbrev ENT : Type := ClassId → ClassId → ClassId → (Nat → Nat) → ST → Nat → va_E
def wlOf (N : ST → Nat) (ent : ENT) : WL := fun cI cZ cD ad σ => (List.range (N σ)).map (fun k => (ad k, ent cI cZ cD ad σ k))
theorem wlOf_at {N : ST → Nat} {ent : ENT} {cI cZ cD : ClassId} {ad : Nat → Nat} {σ : ST} {k : Nat} (h : k < N σ) : (wlOf N ent cI cZ cD ad σ)[k]? = some (ad k, ent cI cZ cD ad σ k) := by
  unfold wlOf
  rw [List.getElem?_map, List.getElem?_range h]
  rfl
theorem wlOf_set {N : ST → Nat} {ent : ENT} {cI cZ cD : ClassId} {ad : Nat → Nat} {σ σ2 : ST} {k : Nat} {e : va_E} (h : k < N σ) (hN : N σ2 = N σ) (he : ent cI cZ cD ad σ2 k = e) (ho : ∀ a, a ≠ k → ent cI cZ cD ad σ2 a = ent cI cZ cD ad σ a) : (wlOf N ent cI cZ cD ad σ).set k (ad k, e) = wlOf N ent cI cZ cD ad σ2 := by
  apply List.ext_getElem?
  intro a
  by_cases ha : a < N σ
  · rw [wlOf_at (σ := σ2) (by rw [hN]; exact ha)]
    by_cases hk : a = k
    · subst hk
      rw [List.getElem?_set_self (by unfold wlOf; simpa using ha), he]
    · rw [List.getElem?_set_ne (fun e => hk e.symm), wlOf_at ha, ho a hk]
  · have h1 : ((wlOf N ent cI cZ cD ad σ).set k (ad k, e)).length ≤ a := by unfold wlOf; simpa using Nat.not_lt.mp ha
    have h2 : (wlOf N ent cI cZ cD ad σ2).length ≤ a := by unfold wlOf; simp [hN]; exact Nat.not_lt.mp ha
    rw [List.getElem?_eq_none h1, List.getElem?_eq_none h2]
def Loc1 (ent : ENT) : Prop := ∀ (cI cZ cD : ClassId) (ad : Nat → Nat) (σ τ : ST) (a : Nat), (∀ b, σ.1 a b = τ.1 a b) → (∀ b, σ.2.1 a b = τ.2.1 a b) → ent cI cZ cD ad σ a = ent cI cZ cD ad τ a
theorem stI_ne {σ : ST} {k i : Nat} {x : Int32} {a b : Nat} (h : a ≠ k) : (stI σ k i x).1 a b = σ.1 a b := if_neg (fun e => h e.1)
theorem stR_ne {σ : ST} {k i : Nat} {x : Option Nat} {a b : Nat} (h : a ≠ k) : (stR σ k i x).2.1 a b = σ.2.1 a b := if_neg (fun e => h e.1)
theorem stI_up {σ : ST} {k i : Nat} {x : Int32} : upd (σ.1 k) i x = (stI σ k i x).1 k := by
  funext j
  by_cases h : j = i <;> simp [upd, stI, h]
def isDr (σ : ST) (k : Nat) : Bool := decide (26 ≤ k ∧ (k - 26) % 5 = 0 ∧ k < 26 + 5 * σ.2.2)
def isRw (σ : ST) (k : Nat) : Bool := decide ((k = 5 ∨ k = 18 ∨ k = 20 ∨ k = 24 ∨ k = 25) ∨ (26 ≤ k ∧ (k - 26) % 5 ≠ 0 ∧ k < 26 + 5 * σ.2.2))
def entM : ENT := fun cI cZ cD ad σ k => match k with
  | 0 => .inr (5, ([.inr (some 1), .inr (some 2), .inl (σ.1 0 2), .inr (some 3), .inr (some 4), .inr (some 5), .inr (some 6), .inr (some 7), .inl (σ.1 0 8), .inr (some 8), .inr (some 9), .inr (some 10), .inr (some 11), .inr (some 12), .inr (some 13), .inl (σ.1 0 15), .inl (σ.1 0 16), .inl (σ.1 0 17), .inr (some 14), .inl (σ.1 0 19), .inl (σ.1 0 20), .inr (some 15), .inr (some 16), .inr (some 17), .inr (some 18), .inr (some 19), .inr (some 20), .inr (some 21), .inr (some 22), .inr (some 23), .inl (σ.1 0 30), .inl (σ.1 0 31)] : List AV).map (av_v ad))
  | 1 => .inl (cI, 16, .inl (σ.1 1))
  | 2 => .inl (cI, 16, .inl (σ.1 2))
  | 3 => .inl (cI, 30, .inl (σ.1 3))
  | 4 => .inl (cI, 30, .inl (σ.1 4))
  | 5 => .inl (cI, 30, .inl (σ.1 5))
  | 6 => .inl (cI, 30, .inl (σ.1 6))
  | 7 => .inl (cI, 30, .inl (σ.1 7))
  | 8 => .inl (cZ, 900, .inl (σ.1 8))
  | 9 => .inl (cI, 120, .inl (σ.1 9))
  | 10 => .inl (cI, 120, .inl (σ.1 10))
  | 11 => .inl (cI, 120, .inl (σ.1 11))
  | 12 => .inl (cI, 120, .inl (σ.1 12))
  | 13 => .inl (cI, 6, .inl (σ.1 13))
  | 14 => .inl (cI, 20, .inl (σ.1 14))
  | 15 => .inl (cI, 22500, .inl (σ.1 15))
  | 16 => .inl (cI, 22500, .inl (σ.1 16))
  | 17 => .inl (cI, 60, .inl (σ.1 17))
  | 18 => .inl (cI, 60, .inl (σ.1 18))
  | 19 => .inl (cI, 200, .inl (σ.1 19))
  | 20 => .inl (cI, 20, .inl (σ.1 20))
  | 21 => .inl (cI, 200, .inl (σ.1 21))
  | 22 => .inl (cI, 20, .inl (σ.1 22))
  | 23 => .inl (cI, 20, .inl (σ.1 23))
  | _ => .inl (cI, 0, .inl (fun _ => 0))
def entX : ENT := fun cI cZ cD ad σ k => match k with
  | 0 => .inr (4, ([.inr (some 1), .inr (some 2), .inr (some 3), .inr (some 4), .inl (σ.1 0 4), .inr (some 5), .inl (σ.1 0 6), .inr (some 6)] : List AV).map (av_v ad))
  | 1 => .inr (2, ([.inl (σ.1 1 0), .inr (some 7), .inr (some 8), .inl (σ.1 1 3), .inr (some 9), .inr (some 10), .inr (some 11), .inr (some 12), .inr (some 13), .inr (some 14)] : List AV).map (av_v ad))
  | 2 => .inr (3, ([.inr (some 1), .inr (some 15), .inr (some 16), .inr (some 17)] : List AV).map (av_v ad))
  | 3 => .inr (1, ([.inl (σ.1 3 0), .inl (σ.1 3 1), .inr (some 18), .inr (some 19), .inr (some 20), .inr (some 1), .inr (some 2), .inr (some 21), .inr (some 22), .inr (some 23), .inr (some 24), .inr (some 25), .inr (σ.2.1 3 12), .inl (σ.1 3 13), .inl (σ.1 3 14), .inl (σ.1 3 15)] : List AV).map (av_v ad))
  | 4 => .inl (cD, 6, .inr (.inr (.inr (.inr (fun j => (σ.2.1 4 j).map ad)))))
  | 5 => .inl (cI, 20, .inl (σ.1 5))
  | 6 => .inl (cI, 6, .inl (σ.1 6))
  | 7 => .inl (cI, 16, .inl (σ.1 7))
  | 8 => .inl (cI, 16, .inl (σ.1 8))
  | 9 => .inl (cI, 30, .inl (σ.1 9))
  | 10 => .inl (cI, 30, .inl (σ.1 10))
  | 11 => .inl (cI, 30, .inl (σ.1 11))
  | 12 => .inl (cI, 30, .inl (σ.1 12))
  | 13 => .inl (cI, 60, .inl (σ.1 13))
  | 14 => .inl (cI, 60, .inl (σ.1 14))
  | 15 => .inl (cI, 3600, .inl (σ.1 15))
  | 16 => .inl (cZ, 60, .inl (σ.1 16))
  | 17 => .inl (cZ, 60, .inl (σ.1 17))
  | 18 => .inl (cI, 20, .inl (σ.1 18))
  | 19 => .inl (cI, 200, .inl (σ.1 19))
  | 20 => .inl (cI, 20, .inl (σ.1 20))
  | 21 => .inl (cI, 200, .inl (σ.1 21))
  | 22 => .inl (cI, 200, .inl (σ.1 22))
  | 23 => .inl (cI, 200, .inl (σ.1 23))
  | 24 => .inl (cI, 20, .inl (σ.1 24))
  | 25 => .inl (cI, 20, .inl (σ.1 25))
  | n + 26 => if n % 5 = 0 then .inr (0, ([.inl (σ.1 (n + 26) 0), .inr (some (n + 27)), .inr (some (n + 28)), .inr (some (n + 29)), .inr (some (n + 30))] : List AV).map (av_v ad)) else .inl (cI, 20, .inl (σ.1 (n + 26)))
def nM : ST → Nat := fun _ => 24
def nX : ST → Nat := fun σ => 26 + 5 * σ.2.2
def wlM : WL := wlOf nM entM
def wlX : WL := wlOf nX entX
theorem locM : Loc1 entM := by
  intro cI cZ cD ad σ τ a h1 h2
  match a, h1, h2 with
  | 0, h1, h2 => simp only [entM, h1, h2]
  | 1, h1, h2 => simp only [entM, show σ.1 1 = τ.1 1 from funext h1]
  | 2, h1, h2 => simp only [entM, show σ.1 2 = τ.1 2 from funext h1]
  | 3, h1, h2 => simp only [entM, show σ.1 3 = τ.1 3 from funext h1]
  | 4, h1, h2 => simp only [entM, show σ.1 4 = τ.1 4 from funext h1]
  | 5, h1, h2 => simp only [entM, show σ.1 5 = τ.1 5 from funext h1]
  | 6, h1, h2 => simp only [entM, show σ.1 6 = τ.1 6 from funext h1]
  | 7, h1, h2 => simp only [entM, show σ.1 7 = τ.1 7 from funext h1]
  | 8, h1, h2 => simp only [entM, show σ.1 8 = τ.1 8 from funext h1]
  | 9, h1, h2 => simp only [entM, show σ.1 9 = τ.1 9 from funext h1]
  | 10, h1, h2 => simp only [entM, show σ.1 10 = τ.1 10 from funext h1]
  | 11, h1, h2 => simp only [entM, show σ.1 11 = τ.1 11 from funext h1]
  | 12, h1, h2 => simp only [entM, show σ.1 12 = τ.1 12 from funext h1]
  | 13, h1, h2 => simp only [entM, show σ.1 13 = τ.1 13 from funext h1]
  | 14, h1, h2 => simp only [entM, show σ.1 14 = τ.1 14 from funext h1]
  | 15, h1, h2 => simp only [entM, show σ.1 15 = τ.1 15 from funext h1]
  | 16, h1, h2 => simp only [entM, show σ.1 16 = τ.1 16 from funext h1]
  | 17, h1, h2 => simp only [entM, show σ.1 17 = τ.1 17 from funext h1]
  | 18, h1, h2 => simp only [entM, show σ.1 18 = τ.1 18 from funext h1]
  | 19, h1, h2 => simp only [entM, show σ.1 19 = τ.1 19 from funext h1]
  | 20, h1, h2 => simp only [entM, show σ.1 20 = τ.1 20 from funext h1]
  | 21, h1, h2 => simp only [entM, show σ.1 21 = τ.1 21 from funext h1]
  | 22, h1, h2 => simp only [entM, show σ.1 22 = τ.1 22 from funext h1]
  | 23, h1, h2 => simp only [entM, show σ.1 23 = τ.1 23 from funext h1]
  | n + 24, h1, h2 => rfl
abbrev obM0 (σ : ST) : List AV := [.inr (some 1), .inr (some 2), .inl (σ.1 0 2), .inr (some 3), .inr (some 4), .inr (some 5), .inr (some 6), .inr (some 7), .inl (σ.1 0 8), .inr (some 8), .inr (some 9), .inr (some 10), .inr (some 11), .inr (some 12), .inr (some 13), .inl (σ.1 0 15), .inl (σ.1 0 16), .inl (σ.1 0 17), .inr (some 14), .inl (σ.1 0 19), .inl (σ.1 0 20), .inr (some 15), .inr (some 16), .inr (some 17), .inr (some 18), .inr (some 19), .inr (some 20), .inr (some 21), .inr (some 22), .inr (some 23), .inl (σ.1 0 30), .inl (σ.1 0 31)]
theorem atM0 (σ : ST) : ObjAt wlM σ 0 5 (obM0 σ) := fun cI cZ cD ad => wlOf_at (show 0 < 24 by decide)
theorem stM0_2 (σ : ST) (x : Int32) : ∀ cI cZ cD ad, (wlM cI cZ cD ad σ).set 0 (ad 0, .inr (5, ((obM0 σ).set 2 (.inl x)).map (av_v ad))) = wlM cI cZ cD ad (stI σ 0 2 x) := fun cI cZ cD ad => wlOf_set (σ2 := stI σ 0 2 x) (show 0 < 24 by decide) rfl rfl (fun a ha => locM _ _ _ _ _ _ _ (fun b => stI_ne ha) (fun b => rfl))
theorem stM0_8 (σ : ST) (x : Int32) : ∀ cI cZ cD ad, (wlM cI cZ cD ad σ).set 0 (ad 0, .inr (5, ((obM0 σ).set 8 (.inl x)).map (av_v ad))) = wlM cI cZ cD ad (stI σ 0 8 x) := fun cI cZ cD ad => wlOf_set (σ2 := stI σ 0 8 x) (show 0 < 24 by decide) rfl rfl (fun a ha => locM _ _ _ _ _ _ _ (fun b => stI_ne ha) (fun b => rfl))
theorem stM0_15 (σ : ST) (x : Int32) : ∀ cI cZ cD ad, (wlM cI cZ cD ad σ).set 0 (ad 0, .inr (5, ((obM0 σ).set 15 (.inl x)).map (av_v ad))) = wlM cI cZ cD ad (stI σ 0 15 x) := fun cI cZ cD ad => wlOf_set (σ2 := stI σ 0 15 x) (show 0 < 24 by decide) rfl rfl (fun a ha => locM _ _ _ _ _ _ _ (fun b => stI_ne ha) (fun b => rfl))
theorem stM0_16 (σ : ST) (x : Int32) : ∀ cI cZ cD ad, (wlM cI cZ cD ad σ).set 0 (ad 0, .inr (5, ((obM0 σ).set 16 (.inl x)).map (av_v ad))) = wlM cI cZ cD ad (stI σ 0 16 x) := fun cI cZ cD ad => wlOf_set (σ2 := stI σ 0 16 x) (show 0 < 24 by decide) rfl rfl (fun a ha => locM _ _ _ _ _ _ _ (fun b => stI_ne ha) (fun b => rfl))
theorem stM0_17 (σ : ST) (x : Int32) : ∀ cI cZ cD ad, (wlM cI cZ cD ad σ).set 0 (ad 0, .inr (5, ((obM0 σ).set 17 (.inl x)).map (av_v ad))) = wlM cI cZ cD ad (stI σ 0 17 x) := fun cI cZ cD ad => wlOf_set (σ2 := stI σ 0 17 x) (show 0 < 24 by decide) rfl rfl (fun a ha => locM _ _ _ _ _ _ _ (fun b => stI_ne ha) (fun b => rfl))
theorem stM0_19 (σ : ST) (x : Int32) : ∀ cI cZ cD ad, (wlM cI cZ cD ad σ).set 0 (ad 0, .inr (5, ((obM0 σ).set 19 (.inl x)).map (av_v ad))) = wlM cI cZ cD ad (stI σ 0 19 x) := fun cI cZ cD ad => wlOf_set (σ2 := stI σ 0 19 x) (show 0 < 24 by decide) rfl rfl (fun a ha => locM _ _ _ _ _ _ _ (fun b => stI_ne ha) (fun b => rfl))
theorem stM0_20 (σ : ST) (x : Int32) : ∀ cI cZ cD ad, (wlM cI cZ cD ad σ).set 0 (ad 0, .inr (5, ((obM0 σ).set 20 (.inl x)).map (av_v ad))) = wlM cI cZ cD ad (stI σ 0 20 x) := fun cI cZ cD ad => wlOf_set (σ2 := stI σ 0 20 x) (show 0 < 24 by decide) rfl rfl (fun a ha => locM _ _ _ _ _ _ _ (fun b => stI_ne ha) (fun b => rfl))
theorem stM0_30 (σ : ST) (x : Int32) : ∀ cI cZ cD ad, (wlM cI cZ cD ad σ).set 0 (ad 0, .inr (5, ((obM0 σ).set 30 (.inl x)).map (av_v ad))) = wlM cI cZ cD ad (stI σ 0 30 x) := fun cI cZ cD ad => wlOf_set (σ2 := stI σ 0 30 x) (show 0 < 24 by decide) rfl rfl (fun a ha => locM _ _ _ _ _ _ _ (fun b => stI_ne ha) (fun b => rfl))
theorem stM0_31 (σ : ST) (x : Int32) : ∀ cI cZ cD ad, (wlM cI cZ cD ad σ).set 0 (ad 0, .inr (5, ((obM0 σ).set 31 (.inl x)).map (av_v ad))) = wlM cI cZ cD ad (stI σ 0 31 x) := fun cI cZ cD ad => wlOf_set (σ2 := stI σ 0 31 x) (show 0 < 24 by decide) rfl rfl (fun a ha => locM _ _ _ _ _ _ _ (fun b => stI_ne ha) (fun b => rfl))
theorem atM1 (σ : ST) : IntAt wlM σ 1 16 (σ.1 1) := fun cI cZ cD ad => wlOf_at (show 1 < 24 by decide)
theorem stM1 (σ : ST) (i : Nat) (x : Int32) : ∀ cI cZ cD ad, (wlM cI cZ cD ad σ).set 1 (ad 1, .inl (cI, 16, .inl (upd (σ.1 1) i x))) = wlM cI cZ cD ad (stI σ 1 i x) := fun cI cZ cD ad => wlOf_set (σ2 := stI σ 1 i x) (show 1 < 24 by decide) rfl (by rw [stI_up]; rfl) (fun a ha => locM _ _ _ _ _ _ _ (fun b => stI_ne ha) (fun b => rfl))
theorem atM2 (σ : ST) : IntAt wlM σ 2 16 (σ.1 2) := fun cI cZ cD ad => wlOf_at (show 2 < 24 by decide)
theorem stM2 (σ : ST) (i : Nat) (x : Int32) : ∀ cI cZ cD ad, (wlM cI cZ cD ad σ).set 2 (ad 2, .inl (cI, 16, .inl (upd (σ.1 2) i x))) = wlM cI cZ cD ad (stI σ 2 i x) := fun cI cZ cD ad => wlOf_set (σ2 := stI σ 2 i x) (show 2 < 24 by decide) rfl (by rw [stI_up]; rfl) (fun a ha => locM _ _ _ _ _ _ _ (fun b => stI_ne ha) (fun b => rfl))
theorem atM3 (σ : ST) : IntAt wlM σ 3 30 (σ.1 3) := fun cI cZ cD ad => wlOf_at (show 3 < 24 by decide)
theorem stM3 (σ : ST) (i : Nat) (x : Int32) : ∀ cI cZ cD ad, (wlM cI cZ cD ad σ).set 3 (ad 3, .inl (cI, 30, .inl (upd (σ.1 3) i x))) = wlM cI cZ cD ad (stI σ 3 i x) := fun cI cZ cD ad => wlOf_set (σ2 := stI σ 3 i x) (show 3 < 24 by decide) rfl (by rw [stI_up]; rfl) (fun a ha => locM _ _ _ _ _ _ _ (fun b => stI_ne ha) (fun b => rfl))
theorem atM4 (σ : ST) : IntAt wlM σ 4 30 (σ.1 4) := fun cI cZ cD ad => wlOf_at (show 4 < 24 by decide)
theorem stM4 (σ : ST) (i : Nat) (x : Int32) : ∀ cI cZ cD ad, (wlM cI cZ cD ad σ).set 4 (ad 4, .inl (cI, 30, .inl (upd (σ.1 4) i x))) = wlM cI cZ cD ad (stI σ 4 i x) := fun cI cZ cD ad => wlOf_set (σ2 := stI σ 4 i x) (show 4 < 24 by decide) rfl (by rw [stI_up]; rfl) (fun a ha => locM _ _ _ _ _ _ _ (fun b => stI_ne ha) (fun b => rfl))
theorem atM5 (σ : ST) : IntAt wlM σ 5 30 (σ.1 5) := fun cI cZ cD ad => wlOf_at (show 5 < 24 by decide)
theorem stM5 (σ : ST) (i : Nat) (x : Int32) : ∀ cI cZ cD ad, (wlM cI cZ cD ad σ).set 5 (ad 5, .inl (cI, 30, .inl (upd (σ.1 5) i x))) = wlM cI cZ cD ad (stI σ 5 i x) := fun cI cZ cD ad => wlOf_set (σ2 := stI σ 5 i x) (show 5 < 24 by decide) rfl (by rw [stI_up]; rfl) (fun a ha => locM _ _ _ _ _ _ _ (fun b => stI_ne ha) (fun b => rfl))
theorem atM6 (σ : ST) : IntAt wlM σ 6 30 (σ.1 6) := fun cI cZ cD ad => wlOf_at (show 6 < 24 by decide)
theorem stM6 (σ : ST) (i : Nat) (x : Int32) : ∀ cI cZ cD ad, (wlM cI cZ cD ad σ).set 6 (ad 6, .inl (cI, 30, .inl (upd (σ.1 6) i x))) = wlM cI cZ cD ad (stI σ 6 i x) := fun cI cZ cD ad => wlOf_set (σ2 := stI σ 6 i x) (show 6 < 24 by decide) rfl (by rw [stI_up]; rfl) (fun a ha => locM _ _ _ _ _ _ _ (fun b => stI_ne ha) (fun b => rfl))
theorem atM7 (σ : ST) : IntAt wlM σ 7 30 (σ.1 7) := fun cI cZ cD ad => wlOf_at (show 7 < 24 by decide)
theorem stM7 (σ : ST) (i : Nat) (x : Int32) : ∀ cI cZ cD ad, (wlM cI cZ cD ad σ).set 7 (ad 7, .inl (cI, 30, .inl (upd (σ.1 7) i x))) = wlM cI cZ cD ad (stI σ 7 i x) := fun cI cZ cD ad => wlOf_set (σ2 := stI σ 7 i x) (show 7 < 24 by decide) rfl (by rw [stI_up]; rfl) (fun a ha => locM _ _ _ _ _ _ _ (fun b => stI_ne ha) (fun b => rfl))
theorem atM8 (σ : ST) : BoolAt wlM σ 8 900 (σ.1 8) := fun cI cZ cD ad => wlOf_at (show 8 < 24 by decide)
theorem stM8 (σ : ST) (i : Nat) (x : Int32) : ∀ cI cZ cD ad, (wlM cI cZ cD ad σ).set 8 (ad 8, .inl (cZ, 900, .inl (upd (σ.1 8) i x))) = wlM cI cZ cD ad (stI σ 8 i x) := fun cI cZ cD ad => wlOf_set (σ2 := stI σ 8 i x) (show 8 < 24 by decide) rfl (by rw [stI_up]; rfl) (fun a ha => locM _ _ _ _ _ _ _ (fun b => stI_ne ha) (fun b => rfl))
theorem atM9 (σ : ST) : IntAt wlM σ 9 120 (σ.1 9) := fun cI cZ cD ad => wlOf_at (show 9 < 24 by decide)
theorem stM9 (σ : ST) (i : Nat) (x : Int32) : ∀ cI cZ cD ad, (wlM cI cZ cD ad σ).set 9 (ad 9, .inl (cI, 120, .inl (upd (σ.1 9) i x))) = wlM cI cZ cD ad (stI σ 9 i x) := fun cI cZ cD ad => wlOf_set (σ2 := stI σ 9 i x) (show 9 < 24 by decide) rfl (by rw [stI_up]; rfl) (fun a ha => locM _ _ _ _ _ _ _ (fun b => stI_ne ha) (fun b => rfl))
theorem atM10 (σ : ST) : IntAt wlM σ 10 120 (σ.1 10) := fun cI cZ cD ad => wlOf_at (show 10 < 24 by decide)
theorem stM10 (σ : ST) (i : Nat) (x : Int32) : ∀ cI cZ cD ad, (wlM cI cZ cD ad σ).set 10 (ad 10, .inl (cI, 120, .inl (upd (σ.1 10) i x))) = wlM cI cZ cD ad (stI σ 10 i x) := fun cI cZ cD ad => wlOf_set (σ2 := stI σ 10 i x) (show 10 < 24 by decide) rfl (by rw [stI_up]; rfl) (fun a ha => locM _ _ _ _ _ _ _ (fun b => stI_ne ha) (fun b => rfl))
theorem atM11 (σ : ST) : IntAt wlM σ 11 120 (σ.1 11) := fun cI cZ cD ad => wlOf_at (show 11 < 24 by decide)
theorem stM11 (σ : ST) (i : Nat) (x : Int32) : ∀ cI cZ cD ad, (wlM cI cZ cD ad σ).set 11 (ad 11, .inl (cI, 120, .inl (upd (σ.1 11) i x))) = wlM cI cZ cD ad (stI σ 11 i x) := fun cI cZ cD ad => wlOf_set (σ2 := stI σ 11 i x) (show 11 < 24 by decide) rfl (by rw [stI_up]; rfl) (fun a ha => locM _ _ _ _ _ _ _ (fun b => stI_ne ha) (fun b => rfl))
theorem atM12 (σ : ST) : IntAt wlM σ 12 120 (σ.1 12) := fun cI cZ cD ad => wlOf_at (show 12 < 24 by decide)
theorem stM12 (σ : ST) (i : Nat) (x : Int32) : ∀ cI cZ cD ad, (wlM cI cZ cD ad σ).set 12 (ad 12, .inl (cI, 120, .inl (upd (σ.1 12) i x))) = wlM cI cZ cD ad (stI σ 12 i x) := fun cI cZ cD ad => wlOf_set (σ2 := stI σ 12 i x) (show 12 < 24 by decide) rfl (by rw [stI_up]; rfl) (fun a ha => locM _ _ _ _ _ _ _ (fun b => stI_ne ha) (fun b => rfl))
theorem atM13 (σ : ST) : IntAt wlM σ 13 6 (σ.1 13) := fun cI cZ cD ad => wlOf_at (show 13 < 24 by decide)
theorem stM13 (σ : ST) (i : Nat) (x : Int32) : ∀ cI cZ cD ad, (wlM cI cZ cD ad σ).set 13 (ad 13, .inl (cI, 6, .inl (upd (σ.1 13) i x))) = wlM cI cZ cD ad (stI σ 13 i x) := fun cI cZ cD ad => wlOf_set (σ2 := stI σ 13 i x) (show 13 < 24 by decide) rfl (by rw [stI_up]; rfl) (fun a ha => locM _ _ _ _ _ _ _ (fun b => stI_ne ha) (fun b => rfl))
theorem atM14 (σ : ST) : IntAt wlM σ 14 20 (σ.1 14) := fun cI cZ cD ad => wlOf_at (show 14 < 24 by decide)
theorem stM14 (σ : ST) (i : Nat) (x : Int32) : ∀ cI cZ cD ad, (wlM cI cZ cD ad σ).set 14 (ad 14, .inl (cI, 20, .inl (upd (σ.1 14) i x))) = wlM cI cZ cD ad (stI σ 14 i x) := fun cI cZ cD ad => wlOf_set (σ2 := stI σ 14 i x) (show 14 < 24 by decide) rfl (by rw [stI_up]; rfl) (fun a ha => locM _ _ _ _ _ _ _ (fun b => stI_ne ha) (fun b => rfl))
theorem atM15 (σ : ST) : IntAt wlM σ 15 22500 (σ.1 15) := fun cI cZ cD ad => wlOf_at (show 15 < 24 by decide)
theorem stM15 (σ : ST) (i : Nat) (x : Int32) : ∀ cI cZ cD ad, (wlM cI cZ cD ad σ).set 15 (ad 15, .inl (cI, 22500, .inl (upd (σ.1 15) i x))) = wlM cI cZ cD ad (stI σ 15 i x) := fun cI cZ cD ad => wlOf_set (σ2 := stI σ 15 i x) (show 15 < 24 by decide) rfl (by rw [stI_up]; rfl) (fun a ha => locM _ _ _ _ _ _ _ (fun b => stI_ne ha) (fun b => rfl))
theorem atM16 (σ : ST) : IntAt wlM σ 16 22500 (σ.1 16) := fun cI cZ cD ad => wlOf_at (show 16 < 24 by decide)
theorem stM16 (σ : ST) (i : Nat) (x : Int32) : ∀ cI cZ cD ad, (wlM cI cZ cD ad σ).set 16 (ad 16, .inl (cI, 22500, .inl (upd (σ.1 16) i x))) = wlM cI cZ cD ad (stI σ 16 i x) := fun cI cZ cD ad => wlOf_set (σ2 := stI σ 16 i x) (show 16 < 24 by decide) rfl (by rw [stI_up]; rfl) (fun a ha => locM _ _ _ _ _ _ _ (fun b => stI_ne ha) (fun b => rfl))
theorem atM17 (σ : ST) : IntAt wlM σ 17 60 (σ.1 17) := fun cI cZ cD ad => wlOf_at (show 17 < 24 by decide)
theorem stM17 (σ : ST) (i : Nat) (x : Int32) : ∀ cI cZ cD ad, (wlM cI cZ cD ad σ).set 17 (ad 17, .inl (cI, 60, .inl (upd (σ.1 17) i x))) = wlM cI cZ cD ad (stI σ 17 i x) := fun cI cZ cD ad => wlOf_set (σ2 := stI σ 17 i x) (show 17 < 24 by decide) rfl (by rw [stI_up]; rfl) (fun a ha => locM _ _ _ _ _ _ _ (fun b => stI_ne ha) (fun b => rfl))
theorem atM18 (σ : ST) : IntAt wlM σ 18 60 (σ.1 18) := fun cI cZ cD ad => wlOf_at (show 18 < 24 by decide)
theorem stM18 (σ : ST) (i : Nat) (x : Int32) : ∀ cI cZ cD ad, (wlM cI cZ cD ad σ).set 18 (ad 18, .inl (cI, 60, .inl (upd (σ.1 18) i x))) = wlM cI cZ cD ad (stI σ 18 i x) := fun cI cZ cD ad => wlOf_set (σ2 := stI σ 18 i x) (show 18 < 24 by decide) rfl (by rw [stI_up]; rfl) (fun a ha => locM _ _ _ _ _ _ _ (fun b => stI_ne ha) (fun b => rfl))
theorem atM19 (σ : ST) : IntAt wlM σ 19 200 (σ.1 19) := fun cI cZ cD ad => wlOf_at (show 19 < 24 by decide)
theorem stM19 (σ : ST) (i : Nat) (x : Int32) : ∀ cI cZ cD ad, (wlM cI cZ cD ad σ).set 19 (ad 19, .inl (cI, 200, .inl (upd (σ.1 19) i x))) = wlM cI cZ cD ad (stI σ 19 i x) := fun cI cZ cD ad => wlOf_set (σ2 := stI σ 19 i x) (show 19 < 24 by decide) rfl (by rw [stI_up]; rfl) (fun a ha => locM _ _ _ _ _ _ _ (fun b => stI_ne ha) (fun b => rfl))
theorem atM20 (σ : ST) : IntAt wlM σ 20 20 (σ.1 20) := fun cI cZ cD ad => wlOf_at (show 20 < 24 by decide)
theorem stM20 (σ : ST) (i : Nat) (x : Int32) : ∀ cI cZ cD ad, (wlM cI cZ cD ad σ).set 20 (ad 20, .inl (cI, 20, .inl (upd (σ.1 20) i x))) = wlM cI cZ cD ad (stI σ 20 i x) := fun cI cZ cD ad => wlOf_set (σ2 := stI σ 20 i x) (show 20 < 24 by decide) rfl (by rw [stI_up]; rfl) (fun a ha => locM _ _ _ _ _ _ _ (fun b => stI_ne ha) (fun b => rfl))
theorem atM21 (σ : ST) : IntAt wlM σ 21 200 (σ.1 21) := fun cI cZ cD ad => wlOf_at (show 21 < 24 by decide)
theorem stM21 (σ : ST) (i : Nat) (x : Int32) : ∀ cI cZ cD ad, (wlM cI cZ cD ad σ).set 21 (ad 21, .inl (cI, 200, .inl (upd (σ.1 21) i x))) = wlM cI cZ cD ad (stI σ 21 i x) := fun cI cZ cD ad => wlOf_set (σ2 := stI σ 21 i x) (show 21 < 24 by decide) rfl (by rw [stI_up]; rfl) (fun a ha => locM _ _ _ _ _ _ _ (fun b => stI_ne ha) (fun b => rfl))
theorem atM22 (σ : ST) : IntAt wlM σ 22 20 (σ.1 22) := fun cI cZ cD ad => wlOf_at (show 22 < 24 by decide)
theorem stM22 (σ : ST) (i : Nat) (x : Int32) : ∀ cI cZ cD ad, (wlM cI cZ cD ad σ).set 22 (ad 22, .inl (cI, 20, .inl (upd (σ.1 22) i x))) = wlM cI cZ cD ad (stI σ 22 i x) := fun cI cZ cD ad => wlOf_set (σ2 := stI σ 22 i x) (show 22 < 24 by decide) rfl (by rw [stI_up]; rfl) (fun a ha => locM _ _ _ _ _ _ _ (fun b => stI_ne ha) (fun b => rfl))
theorem atM23 (σ : ST) : IntAt wlM σ 23 20 (σ.1 23) := fun cI cZ cD ad => wlOf_at (show 23 < 24 by decide)
theorem stM23 (σ : ST) (i : Nat) (x : Int32) : ∀ cI cZ cD ad, (wlM cI cZ cD ad σ).set 23 (ad 23, .inl (cI, 20, .inl (upd (σ.1 23) i x))) = wlM cI cZ cD ad (stI σ 23 i x) := fun cI cZ cD ad => wlOf_set (σ2 := stI σ 23 i x) (show 23 < 24 by decide) rfl (by rw [stI_up]; rfl) (fun a ha => locM _ _ _ _ _ _ _ (fun b => stI_ne ha) (fun b => rfl))
theorem locX : Loc1 entX := by
  intro cI cZ cD ad σ τ a h1 h2
  match a, h1, h2 with
  | 0, h1, h2 => simp only [entX, h1, h2]
  | 1, h1, h2 => simp only [entX, h1, h2]
  | 2, h1, h2 => simp only [entX, h1, h2]
  | 3, h1, h2 => simp only [entX, h1, h2]
  | 4, h1, h2 => simp only [entX, h2]
  | 5, h1, h2 => simp only [entX, show σ.1 5 = τ.1 5 from funext h1]
  | 6, h1, h2 => simp only [entX, show σ.1 6 = τ.1 6 from funext h1]
  | 7, h1, h2 => simp only [entX, show σ.1 7 = τ.1 7 from funext h1]
  | 8, h1, h2 => simp only [entX, show σ.1 8 = τ.1 8 from funext h1]
  | 9, h1, h2 => simp only [entX, show σ.1 9 = τ.1 9 from funext h1]
  | 10, h1, h2 => simp only [entX, show σ.1 10 = τ.1 10 from funext h1]
  | 11, h1, h2 => simp only [entX, show σ.1 11 = τ.1 11 from funext h1]
  | 12, h1, h2 => simp only [entX, show σ.1 12 = τ.1 12 from funext h1]
  | 13, h1, h2 => simp only [entX, show σ.1 13 = τ.1 13 from funext h1]
  | 14, h1, h2 => simp only [entX, show σ.1 14 = τ.1 14 from funext h1]
  | 15, h1, h2 => simp only [entX, show σ.1 15 = τ.1 15 from funext h1]
  | 16, h1, h2 => simp only [entX, show σ.1 16 = τ.1 16 from funext h1]
  | 17, h1, h2 => simp only [entX, show σ.1 17 = τ.1 17 from funext h1]
  | 18, h1, h2 => simp only [entX, show σ.1 18 = τ.1 18 from funext h1]
  | 19, h1, h2 => simp only [entX, show σ.1 19 = τ.1 19 from funext h1]
  | 20, h1, h2 => simp only [entX, show σ.1 20 = τ.1 20 from funext h1]
  | 21, h1, h2 => simp only [entX, show σ.1 21 = τ.1 21 from funext h1]
  | 22, h1, h2 => simp only [entX, show σ.1 22 = τ.1 22 from funext h1]
  | 23, h1, h2 => simp only [entX, show σ.1 23 = τ.1 23 from funext h1]
  | 24, h1, h2 => simp only [entX, show σ.1 24 = τ.1 24 from funext h1]
  | 25, h1, h2 => simp only [entX, show σ.1 25 = τ.1 25 from funext h1]
  | n + 26, h1, h2 => simp only [entX, h1, show σ.1 (n + 26) = τ.1 (n + 26) from funext h1]
abbrev obX0 (σ : ST) : List AV := [.inr (some 1), .inr (some 2), .inr (some 3), .inr (some 4), .inl (σ.1 0 4), .inr (some 5), .inl (σ.1 0 6), .inr (some 6)]
theorem atX0 (σ : ST) : ObjAt wlX σ 0 4 (obX0 σ) := fun cI cZ cD ad => wlOf_at (show 0 < 26 + 5 * σ.2.2 by omega)
theorem stX0_4 (σ : ST) (x : Int32) : ∀ cI cZ cD ad, (wlX cI cZ cD ad σ).set 0 (ad 0, .inr (4, ((obX0 σ).set 4 (.inl x)).map (av_v ad))) = wlX cI cZ cD ad (stI σ 0 4 x) := fun cI cZ cD ad => wlOf_set (σ2 := stI σ 0 4 x) (show 0 < 26 + 5 * σ.2.2 by omega) rfl rfl (fun a ha => locX _ _ _ _ _ _ _ (fun b => stI_ne ha) (fun b => rfl))
theorem stX0_6 (σ : ST) (x : Int32) : ∀ cI cZ cD ad, (wlX cI cZ cD ad σ).set 0 (ad 0, .inr (4, ((obX0 σ).set 6 (.inl x)).map (av_v ad))) = wlX cI cZ cD ad (stI σ 0 6 x) := fun cI cZ cD ad => wlOf_set (σ2 := stI σ 0 6 x) (show 0 < 26 + 5 * σ.2.2 by omega) rfl rfl (fun a ha => locX _ _ _ _ _ _ _ (fun b => stI_ne ha) (fun b => rfl))
abbrev obX1 (σ : ST) : List AV := [.inl (σ.1 1 0), .inr (some 7), .inr (some 8), .inl (σ.1 1 3), .inr (some 9), .inr (some 10), .inr (some 11), .inr (some 12), .inr (some 13), .inr (some 14)]
theorem atX1 (σ : ST) : ObjAt wlX σ 1 2 (obX1 σ) := fun cI cZ cD ad => wlOf_at (show 1 < 26 + 5 * σ.2.2 by omega)
theorem stX1_0 (σ : ST) (x : Int32) : ∀ cI cZ cD ad, (wlX cI cZ cD ad σ).set 1 (ad 1, .inr (2, ((obX1 σ).set 0 (.inl x)).map (av_v ad))) = wlX cI cZ cD ad (stI σ 1 0 x) := fun cI cZ cD ad => wlOf_set (σ2 := stI σ 1 0 x) (show 1 < 26 + 5 * σ.2.2 by omega) rfl rfl (fun a ha => locX _ _ _ _ _ _ _ (fun b => stI_ne ha) (fun b => rfl))
theorem stX1_3 (σ : ST) (x : Int32) : ∀ cI cZ cD ad, (wlX cI cZ cD ad σ).set 1 (ad 1, .inr (2, ((obX1 σ).set 3 (.inl x)).map (av_v ad))) = wlX cI cZ cD ad (stI σ 1 3 x) := fun cI cZ cD ad => wlOf_set (σ2 := stI σ 1 3 x) (show 1 < 26 + 5 * σ.2.2 by omega) rfl rfl (fun a ha => locX _ _ _ _ _ _ _ (fun b => stI_ne ha) (fun b => rfl))
abbrev obX2 (σ : ST) : List AV := [.inr (some 1), .inr (some 15), .inr (some 16), .inr (some 17)]
theorem atX2 (σ : ST) : ObjAt wlX σ 2 3 (obX2 σ) := fun cI cZ cD ad => wlOf_at (show 2 < 26 + 5 * σ.2.2 by omega)
abbrev obX3 (σ : ST) : List AV := [.inl (σ.1 3 0), .inl (σ.1 3 1), .inr (some 18), .inr (some 19), .inr (some 20), .inr (some 1), .inr (some 2), .inr (some 21), .inr (some 22), .inr (some 23), .inr (some 24), .inr (some 25), .inr (σ.2.1 3 12), .inl (σ.1 3 13), .inl (σ.1 3 14), .inl (σ.1 3 15)]
theorem atX3 (σ : ST) : ObjAt wlX σ 3 1 (obX3 σ) := fun cI cZ cD ad => wlOf_at (show 3 < 26 + 5 * σ.2.2 by omega)
theorem stX3_0 (σ : ST) (x : Int32) : ∀ cI cZ cD ad, (wlX cI cZ cD ad σ).set 3 (ad 3, .inr (1, ((obX3 σ).set 0 (.inl x)).map (av_v ad))) = wlX cI cZ cD ad (stI σ 3 0 x) := fun cI cZ cD ad => wlOf_set (σ2 := stI σ 3 0 x) (show 3 < 26 + 5 * σ.2.2 by omega) rfl rfl (fun a ha => locX _ _ _ _ _ _ _ (fun b => stI_ne ha) (fun b => rfl))
theorem stX3_1 (σ : ST) (x : Int32) : ∀ cI cZ cD ad, (wlX cI cZ cD ad σ).set 3 (ad 3, .inr (1, ((obX3 σ).set 1 (.inl x)).map (av_v ad))) = wlX cI cZ cD ad (stI σ 3 1 x) := fun cI cZ cD ad => wlOf_set (σ2 := stI σ 3 1 x) (show 3 < 26 + 5 * σ.2.2 by omega) rfl rfl (fun a ha => locX _ _ _ _ _ _ _ (fun b => stI_ne ha) (fun b => rfl))
theorem stX3_12 (σ : ST) (x : Option Nat) : ∀ cI cZ cD ad, (wlX cI cZ cD ad σ).set 3 (ad 3, .inr (1, ((obX3 σ).set 12 (.inr x)).map (av_v ad))) = wlX cI cZ cD ad (stR σ 3 12 x) := fun cI cZ cD ad => wlOf_set (σ2 := stR σ 3 12 x) (show 3 < 26 + 5 * σ.2.2 by omega) rfl rfl (fun a ha => locX _ _ _ _ _ _ _ (fun b => rfl) (fun b => stR_ne ha))
theorem stX3_13 (σ : ST) (x : Int32) : ∀ cI cZ cD ad, (wlX cI cZ cD ad σ).set 3 (ad 3, .inr (1, ((obX3 σ).set 13 (.inl x)).map (av_v ad))) = wlX cI cZ cD ad (stI σ 3 13 x) := fun cI cZ cD ad => wlOf_set (σ2 := stI σ 3 13 x) (show 3 < 26 + 5 * σ.2.2 by omega) rfl rfl (fun a ha => locX _ _ _ _ _ _ _ (fun b => stI_ne ha) (fun b => rfl))
theorem stX3_14 (σ : ST) (x : Int32) : ∀ cI cZ cD ad, (wlX cI cZ cD ad σ).set 3 (ad 3, .inr (1, ((obX3 σ).set 14 (.inl x)).map (av_v ad))) = wlX cI cZ cD ad (stI σ 3 14 x) := fun cI cZ cD ad => wlOf_set (σ2 := stI σ 3 14 x) (show 3 < 26 + 5 * σ.2.2 by omega) rfl rfl (fun a ha => locX _ _ _ _ _ _ _ (fun b => stI_ne ha) (fun b => rfl))
theorem stX3_15 (σ : ST) (x : Int32) : ∀ cI cZ cD ad, (wlX cI cZ cD ad σ).set 3 (ad 3, .inr (1, ((obX3 σ).set 15 (.inl x)).map (av_v ad))) = wlX cI cZ cD ad (stI σ 3 15 x) := fun cI cZ cD ad => wlOf_set (σ2 := stI σ 3 15 x) (show 3 < 26 + 5 * σ.2.2 by omega) rfl rfl (fun a ha => locX _ _ _ _ _ _ _ (fun b => stI_ne ha) (fun b => rfl))
theorem atX4 (σ : ST) : RefAt wlX σ 4 6 (σ.2.1 4) := fun cI cZ cD ad => wlOf_at (show 4 < 26 + 5 * σ.2.2 by omega)
theorem atX5 (σ : ST) : IntAt wlX σ 5 20 (σ.1 5) := fun cI cZ cD ad => wlOf_at (show 5 < 26 + 5 * σ.2.2 by omega)
theorem stX5 (σ : ST) (i : Nat) (x : Int32) : ∀ cI cZ cD ad, (wlX cI cZ cD ad σ).set 5 (ad 5, .inl (cI, 20, .inl (upd (σ.1 5) i x))) = wlX cI cZ cD ad (stI σ 5 i x) := fun cI cZ cD ad => wlOf_set (σ2 := stI σ 5 i x) (show 5 < 26 + 5 * σ.2.2 by omega) rfl (by rw [stI_up]; rfl) (fun a ha => locX _ _ _ _ _ _ _ (fun b => stI_ne ha) (fun b => rfl))
theorem atX6 (σ : ST) : IntAt wlX σ 6 6 (σ.1 6) := fun cI cZ cD ad => wlOf_at (show 6 < 26 + 5 * σ.2.2 by omega)
theorem stX6 (σ : ST) (i : Nat) (x : Int32) : ∀ cI cZ cD ad, (wlX cI cZ cD ad σ).set 6 (ad 6, .inl (cI, 6, .inl (upd (σ.1 6) i x))) = wlX cI cZ cD ad (stI σ 6 i x) := fun cI cZ cD ad => wlOf_set (σ2 := stI σ 6 i x) (show 6 < 26 + 5 * σ.2.2 by omega) rfl (by rw [stI_up]; rfl) (fun a ha => locX _ _ _ _ _ _ _ (fun b => stI_ne ha) (fun b => rfl))
theorem atX7 (σ : ST) : IntAt wlX σ 7 16 (σ.1 7) := fun cI cZ cD ad => wlOf_at (show 7 < 26 + 5 * σ.2.2 by omega)
theorem stX7 (σ : ST) (i : Nat) (x : Int32) : ∀ cI cZ cD ad, (wlX cI cZ cD ad σ).set 7 (ad 7, .inl (cI, 16, .inl (upd (σ.1 7) i x))) = wlX cI cZ cD ad (stI σ 7 i x) := fun cI cZ cD ad => wlOf_set (σ2 := stI σ 7 i x) (show 7 < 26 + 5 * σ.2.2 by omega) rfl (by rw [stI_up]; rfl) (fun a ha => locX _ _ _ _ _ _ _ (fun b => stI_ne ha) (fun b => rfl))
theorem atX8 (σ : ST) : IntAt wlX σ 8 16 (σ.1 8) := fun cI cZ cD ad => wlOf_at (show 8 < 26 + 5 * σ.2.2 by omega)
theorem stX8 (σ : ST) (i : Nat) (x : Int32) : ∀ cI cZ cD ad, (wlX cI cZ cD ad σ).set 8 (ad 8, .inl (cI, 16, .inl (upd (σ.1 8) i x))) = wlX cI cZ cD ad (stI σ 8 i x) := fun cI cZ cD ad => wlOf_set (σ2 := stI σ 8 i x) (show 8 < 26 + 5 * σ.2.2 by omega) rfl (by rw [stI_up]; rfl) (fun a ha => locX _ _ _ _ _ _ _ (fun b => stI_ne ha) (fun b => rfl))
theorem atX9 (σ : ST) : IntAt wlX σ 9 30 (σ.1 9) := fun cI cZ cD ad => wlOf_at (show 9 < 26 + 5 * σ.2.2 by omega)
theorem stX9 (σ : ST) (i : Nat) (x : Int32) : ∀ cI cZ cD ad, (wlX cI cZ cD ad σ).set 9 (ad 9, .inl (cI, 30, .inl (upd (σ.1 9) i x))) = wlX cI cZ cD ad (stI σ 9 i x) := fun cI cZ cD ad => wlOf_set (σ2 := stI σ 9 i x) (show 9 < 26 + 5 * σ.2.2 by omega) rfl (by rw [stI_up]; rfl) (fun a ha => locX _ _ _ _ _ _ _ (fun b => stI_ne ha) (fun b => rfl))
theorem atX10 (σ : ST) : IntAt wlX σ 10 30 (σ.1 10) := fun cI cZ cD ad => wlOf_at (show 10 < 26 + 5 * σ.2.2 by omega)
theorem stX10 (σ : ST) (i : Nat) (x : Int32) : ∀ cI cZ cD ad, (wlX cI cZ cD ad σ).set 10 (ad 10, .inl (cI, 30, .inl (upd (σ.1 10) i x))) = wlX cI cZ cD ad (stI σ 10 i x) := fun cI cZ cD ad => wlOf_set (σ2 := stI σ 10 i x) (show 10 < 26 + 5 * σ.2.2 by omega) rfl (by rw [stI_up]; rfl) (fun a ha => locX _ _ _ _ _ _ _ (fun b => stI_ne ha) (fun b => rfl))
theorem atX11 (σ : ST) : IntAt wlX σ 11 30 (σ.1 11) := fun cI cZ cD ad => wlOf_at (show 11 < 26 + 5 * σ.2.2 by omega)
theorem stX11 (σ : ST) (i : Nat) (x : Int32) : ∀ cI cZ cD ad, (wlX cI cZ cD ad σ).set 11 (ad 11, .inl (cI, 30, .inl (upd (σ.1 11) i x))) = wlX cI cZ cD ad (stI σ 11 i x) := fun cI cZ cD ad => wlOf_set (σ2 := stI σ 11 i x) (show 11 < 26 + 5 * σ.2.2 by omega) rfl (by rw [stI_up]; rfl) (fun a ha => locX _ _ _ _ _ _ _ (fun b => stI_ne ha) (fun b => rfl))
theorem atX12 (σ : ST) : IntAt wlX σ 12 30 (σ.1 12) := fun cI cZ cD ad => wlOf_at (show 12 < 26 + 5 * σ.2.2 by omega)
theorem stX12 (σ : ST) (i : Nat) (x : Int32) : ∀ cI cZ cD ad, (wlX cI cZ cD ad σ).set 12 (ad 12, .inl (cI, 30, .inl (upd (σ.1 12) i x))) = wlX cI cZ cD ad (stI σ 12 i x) := fun cI cZ cD ad => wlOf_set (σ2 := stI σ 12 i x) (show 12 < 26 + 5 * σ.2.2 by omega) rfl (by rw [stI_up]; rfl) (fun a ha => locX _ _ _ _ _ _ _ (fun b => stI_ne ha) (fun b => rfl))
theorem atX13 (σ : ST) : IntAt wlX σ 13 60 (σ.1 13) := fun cI cZ cD ad => wlOf_at (show 13 < 26 + 5 * σ.2.2 by omega)
theorem stX13 (σ : ST) (i : Nat) (x : Int32) : ∀ cI cZ cD ad, (wlX cI cZ cD ad σ).set 13 (ad 13, .inl (cI, 60, .inl (upd (σ.1 13) i x))) = wlX cI cZ cD ad (stI σ 13 i x) := fun cI cZ cD ad => wlOf_set (σ2 := stI σ 13 i x) (show 13 < 26 + 5 * σ.2.2 by omega) rfl (by rw [stI_up]; rfl) (fun a ha => locX _ _ _ _ _ _ _ (fun b => stI_ne ha) (fun b => rfl))
theorem atX14 (σ : ST) : IntAt wlX σ 14 60 (σ.1 14) := fun cI cZ cD ad => wlOf_at (show 14 < 26 + 5 * σ.2.2 by omega)
theorem stX14 (σ : ST) (i : Nat) (x : Int32) : ∀ cI cZ cD ad, (wlX cI cZ cD ad σ).set 14 (ad 14, .inl (cI, 60, .inl (upd (σ.1 14) i x))) = wlX cI cZ cD ad (stI σ 14 i x) := fun cI cZ cD ad => wlOf_set (σ2 := stI σ 14 i x) (show 14 < 26 + 5 * σ.2.2 by omega) rfl (by rw [stI_up]; rfl) (fun a ha => locX _ _ _ _ _ _ _ (fun b => stI_ne ha) (fun b => rfl))
theorem atX15 (σ : ST) : IntAt wlX σ 15 3600 (σ.1 15) := fun cI cZ cD ad => wlOf_at (show 15 < 26 + 5 * σ.2.2 by omega)
theorem stX15 (σ : ST) (i : Nat) (x : Int32) : ∀ cI cZ cD ad, (wlX cI cZ cD ad σ).set 15 (ad 15, .inl (cI, 3600, .inl (upd (σ.1 15) i x))) = wlX cI cZ cD ad (stI σ 15 i x) := fun cI cZ cD ad => wlOf_set (σ2 := stI σ 15 i x) (show 15 < 26 + 5 * σ.2.2 by omega) rfl (by rw [stI_up]; rfl) (fun a ha => locX _ _ _ _ _ _ _ (fun b => stI_ne ha) (fun b => rfl))
theorem atX16 (σ : ST) : BoolAt wlX σ 16 60 (σ.1 16) := fun cI cZ cD ad => wlOf_at (show 16 < 26 + 5 * σ.2.2 by omega)
theorem stX16 (σ : ST) (i : Nat) (x : Int32) : ∀ cI cZ cD ad, (wlX cI cZ cD ad σ).set 16 (ad 16, .inl (cZ, 60, .inl (upd (σ.1 16) i x))) = wlX cI cZ cD ad (stI σ 16 i x) := fun cI cZ cD ad => wlOf_set (σ2 := stI σ 16 i x) (show 16 < 26 + 5 * σ.2.2 by omega) rfl (by rw [stI_up]; rfl) (fun a ha => locX _ _ _ _ _ _ _ (fun b => stI_ne ha) (fun b => rfl))
theorem atX17 (σ : ST) : BoolAt wlX σ 17 60 (σ.1 17) := fun cI cZ cD ad => wlOf_at (show 17 < 26 + 5 * σ.2.2 by omega)
theorem stX17 (σ : ST) (i : Nat) (x : Int32) : ∀ cI cZ cD ad, (wlX cI cZ cD ad σ).set 17 (ad 17, .inl (cZ, 60, .inl (upd (σ.1 17) i x))) = wlX cI cZ cD ad (stI σ 17 i x) := fun cI cZ cD ad => wlOf_set (σ2 := stI σ 17 i x) (show 17 < 26 + 5 * σ.2.2 by omega) rfl (by rw [stI_up]; rfl) (fun a ha => locX _ _ _ _ _ _ _ (fun b => stI_ne ha) (fun b => rfl))
theorem atX18 (σ : ST) : IntAt wlX σ 18 20 (σ.1 18) := fun cI cZ cD ad => wlOf_at (show 18 < 26 + 5 * σ.2.2 by omega)
theorem stX18 (σ : ST) (i : Nat) (x : Int32) : ∀ cI cZ cD ad, (wlX cI cZ cD ad σ).set 18 (ad 18, .inl (cI, 20, .inl (upd (σ.1 18) i x))) = wlX cI cZ cD ad (stI σ 18 i x) := fun cI cZ cD ad => wlOf_set (σ2 := stI σ 18 i x) (show 18 < 26 + 5 * σ.2.2 by omega) rfl (by rw [stI_up]; rfl) (fun a ha => locX _ _ _ _ _ _ _ (fun b => stI_ne ha) (fun b => rfl))
theorem atX19 (σ : ST) : IntAt wlX σ 19 200 (σ.1 19) := fun cI cZ cD ad => wlOf_at (show 19 < 26 + 5 * σ.2.2 by omega)
theorem stX19 (σ : ST) (i : Nat) (x : Int32) : ∀ cI cZ cD ad, (wlX cI cZ cD ad σ).set 19 (ad 19, .inl (cI, 200, .inl (upd (σ.1 19) i x))) = wlX cI cZ cD ad (stI σ 19 i x) := fun cI cZ cD ad => wlOf_set (σ2 := stI σ 19 i x) (show 19 < 26 + 5 * σ.2.2 by omega) rfl (by rw [stI_up]; rfl) (fun a ha => locX _ _ _ _ _ _ _ (fun b => stI_ne ha) (fun b => rfl))
theorem atX20 (σ : ST) : IntAt wlX σ 20 20 (σ.1 20) := fun cI cZ cD ad => wlOf_at (show 20 < 26 + 5 * σ.2.2 by omega)
theorem stX20 (σ : ST) (i : Nat) (x : Int32) : ∀ cI cZ cD ad, (wlX cI cZ cD ad σ).set 20 (ad 20, .inl (cI, 20, .inl (upd (σ.1 20) i x))) = wlX cI cZ cD ad (stI σ 20 i x) := fun cI cZ cD ad => wlOf_set (σ2 := stI σ 20 i x) (show 20 < 26 + 5 * σ.2.2 by omega) rfl (by rw [stI_up]; rfl) (fun a ha => locX _ _ _ _ _ _ _ (fun b => stI_ne ha) (fun b => rfl))
theorem atX21 (σ : ST) : IntAt wlX σ 21 200 (σ.1 21) := fun cI cZ cD ad => wlOf_at (show 21 < 26 + 5 * σ.2.2 by omega)
theorem stX21 (σ : ST) (i : Nat) (x : Int32) : ∀ cI cZ cD ad, (wlX cI cZ cD ad σ).set 21 (ad 21, .inl (cI, 200, .inl (upd (σ.1 21) i x))) = wlX cI cZ cD ad (stI σ 21 i x) := fun cI cZ cD ad => wlOf_set (σ2 := stI σ 21 i x) (show 21 < 26 + 5 * σ.2.2 by omega) rfl (by rw [stI_up]; rfl) (fun a ha => locX _ _ _ _ _ _ _ (fun b => stI_ne ha) (fun b => rfl))
theorem atX22 (σ : ST) : IntAt wlX σ 22 200 (σ.1 22) := fun cI cZ cD ad => wlOf_at (show 22 < 26 + 5 * σ.2.2 by omega)
theorem stX22 (σ : ST) (i : Nat) (x : Int32) : ∀ cI cZ cD ad, (wlX cI cZ cD ad σ).set 22 (ad 22, .inl (cI, 200, .inl (upd (σ.1 22) i x))) = wlX cI cZ cD ad (stI σ 22 i x) := fun cI cZ cD ad => wlOf_set (σ2 := stI σ 22 i x) (show 22 < 26 + 5 * σ.2.2 by omega) rfl (by rw [stI_up]; rfl) (fun a ha => locX _ _ _ _ _ _ _ (fun b => stI_ne ha) (fun b => rfl))
theorem atX23 (σ : ST) : IntAt wlX σ 23 200 (σ.1 23) := fun cI cZ cD ad => wlOf_at (show 23 < 26 + 5 * σ.2.2 by omega)
theorem stX23 (σ : ST) (i : Nat) (x : Int32) : ∀ cI cZ cD ad, (wlX cI cZ cD ad σ).set 23 (ad 23, .inl (cI, 200, .inl (upd (σ.1 23) i x))) = wlX cI cZ cD ad (stI σ 23 i x) := fun cI cZ cD ad => wlOf_set (σ2 := stI σ 23 i x) (show 23 < 26 + 5 * σ.2.2 by omega) rfl (by rw [stI_up]; rfl) (fun a ha => locX _ _ _ _ _ _ _ (fun b => stI_ne ha) (fun b => rfl))
theorem atX24 (σ : ST) : IntAt wlX σ 24 20 (σ.1 24) := fun cI cZ cD ad => wlOf_at (show 24 < 26 + 5 * σ.2.2 by omega)
theorem stX24 (σ : ST) (i : Nat) (x : Int32) : ∀ cI cZ cD ad, (wlX cI cZ cD ad σ).set 24 (ad 24, .inl (cI, 20, .inl (upd (σ.1 24) i x))) = wlX cI cZ cD ad (stI σ 24 i x) := fun cI cZ cD ad => wlOf_set (σ2 := stI σ 24 i x) (show 24 < 26 + 5 * σ.2.2 by omega) rfl (by rw [stI_up]; rfl) (fun a ha => locX _ _ _ _ _ _ _ (fun b => stI_ne ha) (fun b => rfl))
theorem atX25 (σ : ST) : IntAt wlX σ 25 20 (σ.1 25) := fun cI cZ cD ad => wlOf_at (show 25 < 26 + 5 * σ.2.2 by omega)
theorem stX25 (σ : ST) (i : Nat) (x : Int32) : ∀ cI cZ cD ad, (wlX cI cZ cD ad σ).set 25 (ad 25, .inl (cI, 20, .inl (upd (σ.1 25) i x))) = wlX cI cZ cD ad (stI σ 25 i x) := fun cI cZ cD ad => wlOf_set (σ2 := stI σ 25 i x) (show 25 < 26 + 5 * σ.2.2 by omega) rfl (by rw [stI_up]; rfl) (fun a ha => locX _ _ _ _ _ _ _ (fun b => stI_ne ha) (fun b => rfl))
abbrev obD (σ : ST) (k : Nat) : List AV := [.inl (σ.1 k 0), .inr (some (k + 1)), .inr (some (k + 2)), .inr (some (k + 3)), .inr (some (k + 4))]
theorem isDr_spec {σ : ST} {k : Nat} (h : isDr σ k = true) : ∃ n, k = n + 26 ∧ n % 5 = 0 ∧ k < 26 + 5 * σ.2.2 := by
  unfold isDr at h
  have h := of_decide_eq_true h
  exact ⟨k - 26, by omega, h.2.1, h.2.2⟩
theorem atD {σ : ST} {k : Nat} (h : isDr σ k = true) : ObjAt wlX σ k 0 (obD σ k) := by
  obtain ⟨n, rfl, h1, h2⟩ := isDr_spec h
  intro cI cZ cD ad
  refine (wlOf_at (show n + 26 < nX σ from h2)).trans ?_
  show some (_, (if n % 5 = 0 then _ else _)) = _
  rw [if_pos h1]
theorem stD {σ : ST} {k : Nat} (h : isDr σ k = true) (x : Int32) : ∀ cI cZ cD ad, (wlX cI cZ cD ad σ).set k (ad k, .inr (0, ((obD σ k).set 0 (.inl x)).map (av_v ad))) = wlX cI cZ cD ad (stI σ k 0 x) := by
  obtain ⟨n, rfl, h1, h2⟩ := isDr_spec h
  intro cI cZ cD ad
  refine wlOf_set (σ2 := stI σ (n + 26) 0 x) h2 rfl ?_ (fun a ha => locX _ _ _ _ _ _ _ (fun b => stI_ne ha) (fun b => rfl))
  show (if n % 5 = 0 then _ else _) = _
  rw [if_pos h1]
  simp [stI]
theorem isRw_at {σ : ST} {k : Nat} (h : isRw σ k = true) : k < nX σ ∧ ∀ (τ : ST) cI cZ cD ad, entX cI cZ cD ad τ k = .inl (cI, 20, .inl (τ.1 k)) := by
  unfold isRw at h
  have h := of_decide_eq_true h
  rcases h with h | ⟨h0, h1, h2⟩
  · rcases h with rfl | rfl | rfl | rfl | rfl <;> exact ⟨by show _ < 26 + 5 * _; omega, fun τ cI cZ cD ad => rfl⟩
  · obtain ⟨n, rfl⟩ : ∃ n, k = n + 26 := ⟨k - 26, by omega⟩
    refine ⟨h2, fun τ cI cZ cD ad => ?_⟩
    show (if n % 5 = 0 then _ else _) = _
    rw [if_neg (by omega)]
theorem atR {σ : ST} {k : Nat} (h : isRw σ k = true) : IntAt wlX σ k 20 (σ.1 k) := fun cI cZ cD ad => (wlOf_at (isRw_at h).1).trans (by rw [(isRw_at h).2])
theorem stRw {σ : ST} {k : Nat} (h : isRw σ k = true) (i : Nat) (x : Int32) : ∀ cI cZ cD ad, (wlX cI cZ cD ad σ).set k (ad k, .inl (cI, 20, .inl (upd (σ.1 k) i x))) = wlX cI cZ cD ad (stI σ k i x) := fun cI cZ cD ad => wlOf_set (σ2 := stI σ k i x) (isRw_at h).1 rfl (by rw [(isRw_at h).2, stI_up]) (fun a ha => locX _ _ _ _ _ _ _ (fun b => stI_ne ha) (fun b => rfl))
end
section
-- printed by gen_world.py: the words of fields and calls
theorem iwX0 : ∀ w ∈ u_ws RX0 TX0 5, w ∈ WT := fun w h => List.mem_filter.mpr ⟨inX0 w h, List.all_eq_true.mp (show (u_ws RX0 TX0 5).all goodWord = true by decide +kernel) w h⟩
theorem iwX1 : ∀ w ∈ u_ws RX1 TX1 16, w ∈ WT := fun w h => List.mem_filter.mpr ⟨inX1 w h, List.all_eq_true.mp (show (u_ws RX1 TX1 16).all goodWord = true by decide +kernel) w h⟩
theorem iwX2 : ∀ w ∈ u_ws RX2 TX2 10, w ∈ WT := fun w h => List.mem_filter.mpr ⟨inX2 w h, List.all_eq_true.mp (show (u_ws RX2 TX2 10).all goodWord = true by decide +kernel) w h⟩
theorem iwX3 : ∀ w ∈ u_ws RX3 TX3 4, w ∈ WT := fun w h => List.mem_filter.mpr ⟨inX3 w h, List.all_eq_true.mp (show (u_ws RX3 TX3 4).all goodWord = true by decide +kernel) w h⟩
theorem iwX4 : ∀ w ∈ u_ws RX4 TX4 8, w ∈ WT := fun w h => List.mem_filter.mpr ⟨inX4 w h, List.all_eq_true.mp (show (u_ws RX4 TX4 8).all goodWord = true by decide +kernel) w h⟩
theorem iwX5 : ∀ w ∈ u_ws RX5 TX5 32, w ∈ WT := fun w h => List.mem_filter.mpr ⟨inX5 w h, List.all_eq_true.mp (show (u_ws RX5 TX5 32).all goodWord = true by decide +kernel) w h⟩
theorem foX0_9 : FieldOK RX0 9 0 1 := ⟨RX0, TX0, 5, rfl, by decide, iwX0, wt_in 343 (by decide +kernel) rfl⟩
theorem foX0_15 : FieldOK RX0 15 0 2 := ⟨RX0, TX0, 5, rfl, by decide, iwX0, wt_in 346 (by decide +kernel) rfl⟩
theorem foX0_18 : FieldOK RX0 18 0 3 := ⟨RX0, TX0, 5, rfl, by decide, iwX0, wt_in 349 (by decide +kernel) rfl⟩
theorem foX0_21 : FieldOK RX0 21 0 4 := ⟨RX0, TX0, 5, rfl, by decide, iwX0, wt_in 351 (by decide +kernel) rfl⟩
theorem foX0_24 : FieldOK RX0 24 0 0 := ⟨RX0, TX0, 5, rfl, by decide, iwX0, wt_in 340 (by decide +kernel) rfl⟩
theorem fwX0_24 : FieldW RX0 24 0 0 .int := ⟨RX0, TX0, 5, tyX0, rfl, by decide, iwX0, wt_in 340 (by decide +kernel) rfl, tyX0_ok, nmX0, rfl, by decide +kernel⟩
theorem foX1_9 : FieldOK RX1 9 1 0 := ⟨RX1, TX1, 16, rfl, by decide, iwX1, wt_in 136 (by decide +kernel) rfl⟩
theorem fwX1_9 : FieldW RX1 9 1 0 .int := ⟨RX1, TX1, 16, tyX1, rfl, by decide, iwX1, wt_in 136 (by decide +kernel) rfl, tyX1_ok, nmX1, rfl, by decide +kernel⟩
theorem foX1_15 : FieldOK RX1 15 1 1 := ⟨RX1, TX1, 16, rfl, by decide, iwX1, wt_in 138 (by decide +kernel) rfl⟩
theorem fwX1_15 : FieldW RX1 15 1 1 .int := ⟨RX1, TX1, 16, tyX1, rfl, by decide, iwX1, wt_in 138 (by decide +kernel) rfl, tyX1_ok, nmX1, rfl, by decide +kernel⟩
theorem foX1_18 : FieldOK RX1 18 1 2 := ⟨RX1, TX1, 16, rfl, by decide, iwX1, wt_in 140 (by decide +kernel) rfl⟩
theorem foX1_22 : FieldOK RX1 22 1 3 := ⟨RX1, TX1, 16, rfl, by decide, iwX1, wt_in 142 (by decide +kernel) rfl⟩
theorem foX1_25 : FieldOK RX1 25 1 4 := ⟨RX1, TX1, 16, rfl, by decide, iwX1, wt_in 144 (by decide +kernel) rfl⟩
theorem foX1_28 : FieldOK RX1 28 1 7 := ⟨RX1, TX1, 16, rfl, by decide, iwX1, wt_in 148 (by decide +kernel) rfl⟩
theorem foX1_31 : FieldOK RX1 31 1 8 := ⟨RX1, TX1, 16, rfl, by decide, iwX1, wt_in 149 (by decide +kernel) rfl⟩
theorem foX1_34 : FieldOK RX1 34 1 9 := ⟨RX1, TX1, 16, rfl, by decide, iwX1, wt_in 150 (by decide +kernel) rfl⟩
theorem foX1_37 : FieldOK RX1 37 1 10 := ⟨RX1, TX1, 16, rfl, by decide, iwX1, wt_in 151 (by decide +kernel) rfl⟩
theorem foX1_40 : FieldOK RX1 40 1 11 := ⟨RX1, TX1, 16, rfl, by decide, iwX1, wt_in 152 (by decide +kernel) rfl⟩
theorem foX1_43 : FieldOK RX1 43 1 5 := ⟨RX1, TX1, 16, rfl, by decide, iwX1, wt_in 146 (by decide +kernel) rfl⟩
theorem foX1_47 : FieldOK RX1 47 1 6 := ⟨RX1, TX1, 16, rfl, by decide, iwX1, wt_in 147 (by decide +kernel) rfl⟩
theorem foX1_51 : FieldOK RX1 51 1 12 := ⟨RX1, TX1, 16, rfl, by decide, iwX1, wt_in 153 (by decide +kernel) rfl⟩
theorem fwX1_51 : FieldW RX1 51 1 12 (.object "RoadTrace$Drive") := ⟨RX1, TX1, 16, tyX1, rfl, by decide, iwX1, wt_in 153 (by decide +kernel) rfl, tyX1_ok, nmX1, rfl, by decide +kernel⟩
theorem foX1_55 : FieldOK RX1 55 1 13 := ⟨RX1, TX1, 16, rfl, by decide, iwX1, wt_in 154 (by decide +kernel) rfl⟩
theorem fwX1_55 : FieldW RX1 55 1 13 .boolean := ⟨RX1, TX1, 16, tyX1, rfl, by decide, iwX1, wt_in 154 (by decide +kernel) rfl, tyX1_ok, nmX1, rfl, by decide +kernel⟩
theorem foX1_59 : FieldOK RX1 59 0 0 := ⟨RX0, TX0, 5, rfl, by decide, iwX0, wt_in 341 (by decide +kernel) rfl⟩
theorem foX1_64 : FieldOK RX1 64 1 15 := ⟨RX1, TX1, 16, rfl, by decide, iwX1, wt_in 156 (by decide +kernel) rfl⟩
theorem fwX1_64 : FieldW RX1 64 1 15 .int := ⟨RX1, TX1, 16, tyX1, rfl, by decide, iwX1, wt_in 156 (by decide +kernel) rfl, tyX1_ok, nmX1, rfl, by decide +kernel⟩
theorem foX1_65 : FieldOK RX1 65 0 1 := ⟨RX0, TX0, 5, rfl, by decide, iwX0, wt_in 344 (by decide +kernel) rfl⟩
theorem foX1_68 : FieldOK RX1 68 0 2 := ⟨RX0, TX0, 5, rfl, by decide, iwX0, wt_in 347 (by decide +kernel) rfl⟩
theorem foX1_71 : FieldOK RX1 71 0 4 := ⟨RX0, TX0, 5, rfl, by decide, iwX0, wt_in 352 (by decide +kernel) rfl⟩
theorem ckX1_74 : CallOK RX1 74 yX1_findSpots cX1_findSpots 8 none 4 := ⟨wt_in 400 (by decide +kernel) rfl, wt_in 402 (by decide +kernel) rfl, wt_in 8 (by decide +kernel) rfl, wt_in 50 (by decide +kernel) rfl, wt_in 403 (by decide +kernel) rfl, by decide +kernel, by decide +kernel, by decide +kernel⟩
theorem ckX1_78 : CallOK RX1 78 yX1_gather cX1_gather 3 none 1 := ⟨wt_in 432 (by decide +kernel) rfl, wt_in 397 (by decide +kernel) rfl, wt_in 398 (by decide +kernel) rfl, wt_in 50 (by decide +kernel) rfl, wt_in 399 (by decide +kernel) rfl, by decide +kernel, by decide +kernel, by decide +kernel⟩
theorem foX1_82 : FieldOK RX1 82 1 14 := ⟨RX1, TX1, 16, rfl, by decide, iwX1, wt_in 155 (by decide +kernel) rfl⟩
theorem foX1_85 : FieldOK RX1 85 0 3 := ⟨RX0, TX0, 5, rfl, by decide, iwX0, wt_in 350 (by decide +kernel) rfl⟩
theorem ckX1_88 : CallOK RX1 88 yX1_findRowTo cX1_findRowTo 13 none 3 := ⟨wt_in 433 (by decide +kernel) rfl, wt_in 435 (by decide +kernel) rfl, wt_in 11 (by decide +kernel) rfl, wt_in 50 (by decide +kernel) rfl, wt_in 436 (by decide +kernel) rfl, by decide +kernel, by decide +kernel, by decide +kernel⟩
theorem ckX1_92 : CallOK RX1 92 yX1_chooseLeast cX1_chooseLeast 6 none 0 := ⟨wt_in 459 (by decide +kernel) rfl, wt_in 461 (by decide +kernel) rfl, wt_in 17 (by decide +kernel) rfl, wt_in 50 (by decide +kernel) rfl, wt_in 462 (by decide +kernel) rfl, by decide +kernel, by decide +kernel, by decide +kernel⟩
theorem foX1_95 : FieldOK RX1 95 2 3 := ⟨RX2, TX2, 10, rfl, by decide, iwX2, wt_in 73 (by decide +kernel) rfl⟩
theorem foX1_100 : FieldOK RX1 100 2 5 := ⟨RX2, TX2, 10, rfl, by decide, iwX2, wt_in 79 (by decide +kernel) rfl⟩
theorem ckX1_103 : CallOK RX1 103 yX2_offFrom cX2_offFrom 8 (some .int) 3 := ⟨wt_in 404 (by decide +kernel) rfl, wt_in 405 (by decide +kernel) rfl, wt_in 406 (by decide +kernel) rfl, wt_in 48 (by decide +kernel) rfl, wt_in 407 (by decide +kernel) rfl, by decide +kernel, by decide +kernel, by decide +kernel⟩
theorem ckX1_107 : CallOK RX1 107 yX1_addSpot cX1_addSpot 7 none 3 := ⟨wt_in 411 (by decide +kernel) rfl, wt_in 413 (by decide +kernel) rfl, wt_in 9 (by decide +kernel) rfl, wt_in 50 (by decide +kernel) rfl, wt_in 414 (by decide +kernel) rfl, by decide +kernel, by decide +kernel, by decide +kernel⟩
theorem ckX1_111 : CallOK RX1 111 yX1_worstSlot cX1_worstSlot 4 (some .int) 1 := ⟨wt_in 415 (by decide +kernel) rfl, wt_in 417 (by decide +kernel) rfl, wt_in 10 (by decide +kernel) rfl, wt_in 50 (by decide +kernel) rfl, wt_in 418 (by decide +kernel) rfl, by decide +kernel, by decide +kernel, by decide +kernel⟩
theorem ckX1_115 : CallOK RX1 115 yX1_longestLeg cX1_longestLeg 2 (some .int) 1 := ⟨wt_in 437 (by decide +kernel) rfl, wt_in 439 (by decide +kernel) rfl, wt_in 12 (by decide +kernel) rfl, wt_in 50 (by decide +kernel) rfl, wt_in 440 (by decide +kernel) rfl, by decide +kernel, by decide +kernel, by decide +kernel⟩
theorem ckX1_118 : CallOK RX1 118 yX1_legLength cX1_legLength 5 (some .int) 3 := ⟨wt_in 441 (by decide +kernel) rfl, wt_in 443 (by decide +kernel) rfl, wt_in 13 (by decide +kernel) rfl, wt_in 50 (by decide +kernel) rfl, wt_in 444 (by decide +kernel) rfl, by decide +kernel, by decide +kernel, by decide +kernel⟩
theorem ckX1_121 : CallOK RX1 121 yX1_isRowFirst cX1_isRowFirst 4 (some .boolean) 2 := ⟨wt_in 447 (by decide +kernel) rfl, wt_in 449 (by decide +kernel) rfl, wt_in 14 (by decide +kernel) rfl, wt_in 50 (by decide +kernel) rfl, wt_in 450 (by decide +kernel) rfl, by decide +kernel, by decide +kernel, by decide +kernel⟩
theorem ckX1_125 : CallOK RX1 125 yX3_least cX3_least 6 (some .int) 2 := ⟨wt_in 445 (by decide +kernel) rfl, wt_in 292 (by decide +kernel) rfl, wt_in 293 (by decide +kernel) rfl, wt_in 49 (by decide +kernel) rfl, wt_in 294 (by decide +kernel) rfl, by decide +kernel, by decide +kernel, by decide +kernel⟩
theorem lcX1_131 : Cond.constant RX1 131 2000000000 ∈ WT := wt_in 446 (by decide +kernel) rfl
theorem ckX1_132 : CallOK RX1 132 yX1_costOfEnd cX1_costOfEnd 2 (some .int) 1 := ⟨wt_in 463 (by decide +kernel) rfl, wt_in 465 (by decide +kernel) rfl, wt_in 18 (by decide +kernel) rfl, wt_in 50 (by decide +kernel) rfl, wt_in 466 (by decide +kernel) rfl, by decide +kernel, by decide +kernel, by decide +kernel⟩
theorem fwX1_82 : FieldW RX1 82 1 14 .int := ⟨RX1, TX1, 16, tyX1, rfl, by decide, iwX1, wt_in 155 (by decide +kernel) rfl, tyX1_ok, nmX1, rfl, by decide +kernel⟩
theorem ckX1_135 : CallOK RX1 135 yX1_writeRow cX1_writeRow 5 none 2 := ⟨wt_in 451 (by decide +kernel) rfl, wt_in 453 (by decide +kernel) rfl, wt_in 15 (by decide +kernel) rfl, wt_in 50 (by decide +kernel) rfl, wt_in 454 (by decide +kernel) rfl, by decide +kernel, by decide +kernel, by decide +kernel⟩
theorem ckX1_139 : CallOK RX1 139 yX1_countSame cX1_countSame 4 (some .int) 2 := ⟨wt_in 455 (by decide +kernel) rfl, wt_in 457 (by decide +kernel) rfl, wt_in 16 (by decide +kernel) rfl, wt_in 50 (by decide +kernel) rfl, wt_in 458 (by decide +kernel) rfl, by decide +kernel, by decide +kernel, by decide +kernel⟩
theorem ckX1_143 : CallOK RX1 143 yX1_sameInEnd cX1_sameInEnd 2 (some .int) 1 := ⟨wt_in 504 (by decide +kernel) rfl, wt_in 506 (by decide +kernel) rfl, wt_in 21 (by decide +kernel) rfl, wt_in 50 (by decide +kernel) rfl, wt_in 507 (by decide +kernel) rfl, by decide +kernel, by decide +kernel, by decide +kernel⟩
theorem ckX1_146 : Cond.methodLink RX1 146 Lib.Math.min.name ∈ WT := wt_in 508 (by decide +kernel) rfl
theorem ckX1_151 : CallOK RX1 151 yX1_findSlot cX1_findSlot 4 (some .int) 2 := ⟨wt_in 479 (by decide +kernel) rfl, wt_in 481 (by decide +kernel) rfl, wt_in 19 (by decide +kernel) rfl, wt_in 50 (by decide +kernel) rfl, wt_in 482 (by decide +kernel) rfl, by decide +kernel, by decide +kernel, by decide +kernel⟩
theorem ckX1_154 : CallOK RX1 154 yX1_ticksBetween cX1_ticksBetween 3 (some .int) 2 := ⟨wt_in 487 (by decide +kernel) rfl, wt_in 489 (by decide +kernel) rfl, wt_in 20 (by decide +kernel) rfl, wt_in 50 (by decide +kernel) rfl, wt_in 490 (by decide +kernel) rfl, by decide +kernel, by decide +kernel, by decide +kernel⟩
theorem ckX1_157 : CallOK RX1 157 yX1_nextNotLeft cX1_nextNotLeft 3 (some .int) 1 := ⟨wt_in 517 (by decide +kernel) rfl, wt_in 519 (by decide +kernel) rfl, wt_in 22 (by decide +kernel) rfl, wt_in 50 (by decide +kernel) rfl, wt_in 520 (by decide +kernel) rfl, by decide +kernel, by decide +kernel, by decide +kernel⟩
theorem foX2_9 : FieldOK RX2 9 2 1 := ⟨RX2, TX2, 10, rfl, by decide, iwX2, wt_in 70 (by decide +kernel) rfl⟩
theorem foX2_15 : FieldOK RX2 15 2 2 := ⟨RX2, TX2, 10, rfl, by decide, iwX2, wt_in 71 (by decide +kernel) rfl⟩
theorem foX2_18 : FieldOK RX2 18 2 4 := ⟨RX2, TX2, 10, rfl, by decide, iwX2, wt_in 76 (by decide +kernel) rfl⟩
theorem foX2_21 : FieldOK RX2 21 2 5 := ⟨RX2, TX2, 10, rfl, by decide, iwX2, wt_in 77 (by decide +kernel) rfl⟩
theorem foX2_24 : FieldOK RX2 24 2 6 := ⟨RX2, TX2, 10, rfl, by decide, iwX2, wt_in 81 (by decide +kernel) rfl⟩
theorem foX2_27 : FieldOK RX2 27 2 7 := ⟨RX2, TX2, 10, rfl, by decide, iwX2, wt_in 82 (by decide +kernel) rfl⟩
theorem foX2_30 : FieldOK RX2 30 2 8 := ⟨RX2, TX2, 10, rfl, by decide, iwX2, wt_in 84 (by decide +kernel) rfl⟩
theorem foX2_33 : FieldOK RX2 33 2 9 := ⟨RX2, TX2, 10, rfl, by decide, iwX2, wt_in 86 (by decide +kernel) rfl⟩
theorem foX2_36 : FieldOK RX2 36 2 0 := ⟨RX2, TX2, 10, rfl, by decide, iwX2, wt_in 68 (by decide +kernel) rfl⟩
theorem foX2_40 : FieldOK RX2 40 2 3 := ⟨RX2, TX2, 10, rfl, by decide, iwX2, wt_in 72 (by decide +kernel) rfl⟩
theorem fwX2_36 : FieldW RX2 36 2 0 .int := ⟨RX2, TX2, 10, tyX2, rfl, by decide, iwX2, wt_in 68 (by decide +kernel) rfl, tyX2_ok, nmX2, rfl, by decide +kernel⟩
theorem fwX2_40 : FieldW RX2 40 2 3 .int := ⟨RX2, TX2, 10, tyX2, rfl, by decide, iwX2, wt_in 72 (by decide +kernel) rfl, tyX2_ok, nmX2, rfl, by decide +kernel⟩
theorem ckX2_43 : CallOK RX2 43 yX2_setKind cX2_setKind 3 none 2 := ⟨wt_in 255 (by decide +kernel) rfl, wt_in 256 (by decide +kernel) rfl, wt_in 257 (by decide +kernel) rfl, wt_in 48 (by decide +kernel) rfl, wt_in 258 (by decide +kernel) rfl, by decide +kernel, by decide +kernel, by decide +kernel⟩
theorem ckX2_47 : CallOK RX2 47 yX2_isAtKnot cX2_isAtKnot 3 (some .boolean) 2 := ⟨wt_in 271 (by decide +kernel) rfl, wt_in 273 (by decide +kernel) rfl, wt_in 1 (by decide +kernel) rfl, wt_in 48 (by decide +kernel) rfl, wt_in 274 (by decide +kernel) rfl, by decide +kernel, by decide +kernel, by decide +kernel⟩
theorem ckX2_51 : CallSOK RX2 51 yX2_quartersAlong cX2_quartersAlong 3 (some .int) 3 := ⟨wt_in 408 (by decide +kernel) rfl, wt_in 409 (by decide +kernel) rfl, wt_in 48 (by decide +kernel) rfl, wt_in 410 (by decide +kernel) rfl, by decide +kernel, by decide +kernel, by decide +kernel⟩
theorem foX3_9 : FieldOK RX3 9 3 1 := ⟨RX3, TX3, 4, rfl, by decide, iwX3, wt_in 117 (by decide +kernel) rfl⟩
theorem foX3_15 : FieldOK RX3 15 3 2 := ⟨RX3, TX3, 4, rfl, by decide, iwX3, wt_in 118 (by decide +kernel) rfl⟩
theorem foX3_19 : FieldOK RX3 19 3 3 := ⟨RX3, TX3, 4, rfl, by decide, iwX3, wt_in 119 (by decide +kernel) rfl⟩
theorem foX3_22 : FieldOK RX3 22 3 0 := ⟨RX3, TX3, 4, rfl, by decide, iwX3, wt_in 116 (by decide +kernel) rfl⟩
theorem ckX3_26 : CallOK RX3 26 yX3_know cX3_know 6 none 1 := ⟨wt_in 295 (by decide +kernel) rfl, wt_in 297 (by decide +kernel) rfl, wt_in 2 (by decide +kernel) rfl, wt_in 49 (by decide +kernel) rfl, wt_in 298 (by decide +kernel) rfl, by decide +kernel, by decide +kernel, by decide +kernel⟩
theorem ckX3_30 : CallOK RX3 30 yX3_alongOneRoad cX3_alongOneRoad 4 (some .int) 2 := ⟨wt_in 312 (by decide +kernel) rfl, wt_in 314 (by decide +kernel) rfl, wt_in 5 (by decide +kernel) rfl, wt_in 49 (by decide +kernel) rfl, wt_in 315 (by decide +kernel) rfl, by decide +kernel, by decide +kernel, by decide +kernel⟩
theorem ckX3_34 : CallOK RX3 34 yX2_weightOfPart cX2_weightOfPart 3 (some .int) 2 := ⟨wt_in 308 (by decide +kernel) rfl, wt_in 309 (by decide +kernel) rfl, wt_in 310 (by decide +kernel) rfl, wt_in 48 (by decide +kernel) rfl, wt_in 311 (by decide +kernel) rfl, by decide +kernel, by decide +kernel, by decide +kernel⟩
theorem ckX3_39 : CallOK RX3 39 yX3_throughTurns cX3_throughTurns 9 (some .int) 3 := ⟨wt_in 319 (by decide +kernel) rfl, wt_in 321 (by decide +kernel) rfl, wt_in 6 (by decide +kernel) rfl, wt_in 49 (by decide +kernel) rfl, wt_in 322 (by decide +kernel) rfl, by decide +kernel, by decide +kernel, by decide +kernel⟩
theorem ckX3_43 : Cond.methodLink RX3 43 Lib.Math.min.name ∈ WT := wt_in 323 (by decide +kernel) rfl
theorem foX3_48 : FieldOK RX3 48 2 5 := ⟨RX2, TX2, 10, rfl, by decide, iwX2, wt_in 78 (by decide +kernel) rfl⟩
theorem lcX3_51 : Cond.constant RX3 51 2000000000 ∈ WT := wt_in 299 (by decide +kernel) rfl
theorem ckX3_52 : Cond.methodLink RX3 52 Lib.Math.abs.name ∈ WT := wt_in 316 (by decide +kernel) rfl
theorem foX3_56 : FieldOK RX3 56 2 3 := ⟨RX2, TX2, 10, rfl, by decide, iwX2, wt_in 74 (by decide +kernel) rfl⟩
theorem ckX3_60 : CallOK RX3 60 yX3_turnFrom cX3_turnFrom 8 none 3 := ⟨wt_in 300 (by decide +kernel) rfl, wt_in 302 (by decide +kernel) rfl, wt_in 3 (by decide +kernel) rfl, wt_in 49 (by decide +kernel) rfl, wt_in 303 (by decide +kernel) rfl, by decide +kernel, by decide +kernel, by decide +kernel⟩
theorem ckX3_64 : CallOK RX3 64 yX3_nearestOpen cX3_nearestOpen 6 (some .int) 2 := ⟨wt_in 304 (by decide +kernel) rfl, wt_in 306 (by decide +kernel) rfl, wt_in 4 (by decide +kernel) rfl, wt_in 49 (by decide +kernel) rfl, wt_in 307 (by decide +kernel) rfl, by decide +kernel, by decide +kernel, by decide +kernel⟩
theorem foX3_67 : FieldOK RX3 67 2 9 := ⟨RX2, TX2, 10, rfl, by decide, iwX2, wt_in 87 (by decide +kernel) rfl⟩
theorem foX3_70 : FieldOK RX3 70 2 7 := ⟨RX2, TX2, 10, rfl, by decide, iwX2, wt_in 83 (by decide +kernel) rfl⟩
theorem foX3_73 : FieldOK RX3 73 2 8 := ⟨RX2, TX2, 10, rfl, by decide, iwX2, wt_in 85 (by decide +kernel) rfl⟩
theorem foX4_12 : FieldOK RX4 12 4 0 := ⟨RX4, TX4, 8, rfl, by decide, iwX4, wt_in 192 (by decide +kernel) rfl⟩
theorem foX4_21 : FieldOK RX4 21 4 1 := ⟨RX4, TX4, 8, rfl, by decide, iwX4, wt_in 193 (by decide +kernel) rfl⟩
theorem foX4_30 : FieldOK RX4 30 4 2 := ⟨RX4, TX4, 8, rfl, by decide, iwX4, wt_in 194 (by decide +kernel) rfl⟩
theorem foX4_36 : FieldOK RX4 36 4 3 := ⟨RX4, TX4, 8, rfl, by decide, iwX4, wt_in 195 (by decide +kernel) rfl⟩
theorem foX4_40 : FieldOK RX4 40 4 4 := ⟨RX4, TX4, 8, rfl, by decide, iwX4, wt_in 196 (by decide +kernel) rfl⟩
theorem fwX4_40 : FieldW RX4 40 4 4 .int := ⟨RX4, TX4, 8, tyX4, rfl, by decide, iwX4, wt_in 196 (by decide +kernel) rfl, tyX4_ok, nmX4, rfl, by decide +kernel⟩
theorem foX4_44 : FieldOK RX4 44 4 5 := ⟨RX4, TX4, 8, rfl, by decide, iwX4, wt_in 197 (by decide +kernel) rfl⟩
theorem foX4_48 : FieldOK RX4 48 4 6 := ⟨RX4, TX4, 8, rfl, by decide, iwX4, wt_in 198 (by decide +kernel) rfl⟩
theorem fwX4_48 : FieldW RX4 48 4 6 .int := ⟨RX4, TX4, 8, tyX4, rfl, by decide, iwX4, wt_in 198 (by decide +kernel) rfl, tyX4_ok, nmX4, rfl, by decide +kernel⟩
theorem foX4_51 : FieldOK RX4 51 4 7 := ⟨RX4, TX4, 8, rfl, by decide, iwX4, wt_in 199 (by decide +kernel) rfl⟩
theorem ckX4_54 : CallSOK RX4 54 yX4_isWithin cX4_isWithin 3 (some .boolean) 3 := ⟨wt_in 221 (by decide +kernel) rfl, wt_in 222 (by decide +kernel) rfl, wt_in 47 (by decide +kernel) rfl, wt_in 223 (by decide +kernel) rfl, by decide +kernel, by decide +kernel, by decide +kernel⟩
theorem ckX4_58 : CallOK RX4 58 yX2_addKnot cX2_addKnot 3 (some .int) 2 := ⟨wt_in 224 (by decide +kernel) rfl, wt_in 225 (by decide +kernel) rfl, wt_in 226 (by decide +kernel) rfl, wt_in 48 (by decide +kernel) rfl, wt_in 227 (by decide +kernel) rfl, by decide +kernel, by decide +kernel, by decide +kernel⟩
theorem ckX4_62 : CallOK RX4 62 yX2_hasKnot cX2_hasKnot 2 (some .boolean) 1 := ⟨wt_in 232 (by decide +kernel) rfl, wt_in 233 (by decide +kernel) rfl, wt_in 234 (by decide +kernel) rfl, wt_in 48 (by decide +kernel) rfl, wt_in 235 (by decide +kernel) rfl, by decide +kernel, by decide +kernel, by decide +kernel⟩
theorem ckX4_66 : CallSOK RX4 66 yX4_isFeeOfKind cX4_isFeeOfKind 2 (some .boolean) 2 := ⟨wt_in 236 (by decide +kernel) rfl, wt_in 237 (by decide +kernel) rfl, wt_in 47 (by decide +kernel) rfl, wt_in 238 (by decide +kernel) rfl, by decide +kernel, by decide +kernel, by decide +kernel⟩
theorem ckX4_70 : CallOK RX4 70 yX4_forgetWays cX4_forgetWays 1 none 0 := ⟨wt_in 239 (by decide +kernel) rfl, wt_in 241 (by decide +kernel) rfl, wt_in 0 (by decide +kernel) rfl, wt_in 47 (by decide +kernel) rfl, wt_in 242 (by decide +kernel) rfl, by decide +kernel, by decide +kernel, by decide +kernel⟩
theorem ckX4_73 : CallOK RX4 73 yX2_addRoad cX2_addRoad 7 (some .int) 5 := ⟨wt_in 251 (by decide +kernel) rfl, wt_in 252 (by decide +kernel) rfl, wt_in 253 (by decide +kernel) rfl, wt_in 48 (by decide +kernel) rfl, wt_in 254 (by decide +kernel) rfl, by decide +kernel, by decide +kernel, by decide +kernel⟩
theorem ckX4_77 : CallOK RX4 77 yX2_hasRoad cX2_hasRoad 2 (some .boolean) 1 := ⟨wt_in 263 (by decide +kernel) rfl, wt_in 264 (by decide +kernel) rfl, wt_in 265 (by decide +kernel) rfl, wt_in 48 (by decide +kernel) rfl, wt_in 266 (by decide +kernel) rfl, by decide +kernel, by decide +kernel, by decide +kernel⟩
theorem ckX4_80 : CallOK RX4 80 yX2_haveCommonKnot cX2_haveCommonKnot 3 (some .boolean) 2 := ⟨wt_in 267 (by decide +kernel) rfl, wt_in 268 (by decide +kernel) rfl, wt_in 269 (by decide +kernel) rfl, wt_in 48 (by decide +kernel) rfl, wt_in 270 (by decide +kernel) rfl, by decide +kernel, by decide +kernel, by decide +kernel⟩
theorem ckX4_83 : CallOK RX4 83 yX2_isBarred cX2_isBarred 3 (some .boolean) 2 := ⟨wt_in 275 (by decide +kernel) rfl, wt_in 276 (by decide +kernel) rfl, wt_in 277 (by decide +kernel) rfl, wt_in 48 (by decide +kernel) rfl, wt_in 278 (by decide +kernel) rfl, by decide +kernel, by decide +kernel, by decide +kernel⟩
theorem ckX4_86 : CallOK RX4 86 yX2_setBarred cX2_setBarred 5 none 3 := ⟨wt_in 279 (by decide +kernel) rfl, wt_in 280 (by decide +kernel) rfl, wt_in 281 (by decide +kernel) rfl, wt_in 48 (by decide +kernel) rfl, wt_in 282 (by decide +kernel) rfl, by decide +kernel, by decide +kernel, by decide +kernel⟩
theorem ckX4_90 : CallOK RX4 90 yX2_hasPoint cX2_hasPoint 2 (some .boolean) 1 := ⟨wt_in 287 (by decide +kernel) rfl, wt_in 288 (by decide +kernel) rfl, wt_in 289 (by decide +kernel) rfl, wt_in 48 (by decide +kernel) rfl, wt_in 290 (by decide +kernel) rfl, by decide +kernel, by decide +kernel, by decide +kernel⟩
theorem ckX4_93 : CallOK RX4 93 yX3_least cX3_least 6 (some .int) 2 := ⟨wt_in 291 (by decide +kernel) rfl, wt_in 292 (by decide +kernel) rfl, wt_in 293 (by decide +kernel) rfl, wt_in 49 (by decide +kernel) rfl, wt_in 294 (by decide +kernel) rfl, by decide +kernel, by decide +kernel, by decide +kernel⟩
theorem lcX4_96 : Cond.constant RX4 96 2000000000 ∈ WT := wt_in 326 (by decide +kernel) rfl
theorem ckX4_98 : CallOK RX4 98 yX4_findDrive cX4_findDrive 2 (some (.object "RoadTrace$Drive")) 1 := ⟨wt_in 368 (by decide +kernel) rfl, wt_in 370 (by decide +kernel) rfl, wt_in 7 (by decide +kernel) rfl, wt_in 47 (by decide +kernel) rfl, wt_in 371 (by decide +kernel) rfl, by decide +kernel, by decide +kernel, by decide +kernel⟩
theorem ckX4_102 : CallOK RX4 102 yX0_lastTick cX0_lastTick 1 (some .int) 0 := ⟨wt_in 372 (by decide +kernel) rfl, wt_in 373 (by decide +kernel) rfl, wt_in 374 (by decide +kernel) rfl, wt_in 53 (by decide +kernel) rfl, wt_in 375 (by decide +kernel) rfl, by decide +kernel, by decide +kernel, by decide +kernel⟩
theorem ckX4_106 : CallOK RX4 106 yX1_forget cX1_forget 1 none 0 := ⟨wt_in 247 (by decide +kernel) rfl, wt_in 248 (by decide +kernel) rfl, wt_in 249 (by decide +kernel) rfl, wt_in 50 (by decide +kernel) rfl, wt_in 250 (by decide +kernel) rfl, by decide +kernel, by decide +kernel, by decide +kernel⟩
theorem ckX4_109 : CallOK RX4 109 yX0_addSight cX0_addSight 5 (some .int) 4 := ⟨wt_in 376 (by decide +kernel) rfl, wt_in 377 (by decide +kernel) rfl, wt_in 378 (by decide +kernel) rfl, wt_in 53 (by decide +kernel) rfl, wt_in 379 (by decide +kernel) rfl, by decide +kernel, by decide +kernel, by decide +kernel⟩
theorem foX4_113 : FieldOK RX4 113 0 0 := ⟨RX0, TX0, 5, rfl, by decide, iwX0, wt_in 342 (by decide +kernel) rfl⟩
theorem fwX4_113 : FieldW RX4 113 0 0 .int := ⟨RX0, TX0, 5, tyX0, rfl, by decide, iwX0, wt_in 342 (by decide +kernel) rfl, tyX0_ok, nmX0, rfl, by decide +kernel⟩
theorem foX4_116 : FieldOK RX4 116 1 0 := ⟨RX1, TX1, 16, rfl, by decide, iwX1, wt_in 137 (by decide +kernel) rfl⟩
theorem fwX4_116 : FieldW RX4 116 1 0 .int := ⟨RX1, TX1, 16, tyX1, rfl, by decide, iwX1, wt_in 137 (by decide +kernel) rfl, tyX1_ok, nmX1, rfl, by decide +kernel⟩
theorem foX4_119 : FieldOK RX4 119 1 1 := ⟨RX1, TX1, 16, rfl, by decide, iwX1, wt_in 139 (by decide +kernel) rfl⟩
theorem fwX4_119 : FieldW RX4 119 1 1 .int := ⟨RX1, TX1, 16, tyX1, rfl, by decide, iwX1, wt_in 139 (by decide +kernel) rfl, tyX1_ok, nmX1, rfl, by decide +kernel⟩
theorem ckX4_122 : CallOK RX4 122 yX0_hasSight cX0_hasSight 2 (some .boolean) 1 := ⟨wt_in 392 (by decide +kernel) rfl, wt_in 393 (by decide +kernel) rfl, wt_in 394 (by decide +kernel) rfl, wt_in 53 (by decide +kernel) rfl, wt_in 395 (by decide +kernel) rfl, by decide +kernel, by decide +kernel, by decide +kernel⟩
theorem ckX4_125 : CallOK RX4 125 yX1_gather cX1_gather 3 none 1 := ⟨wt_in 396 (by decide +kernel) rfl, wt_in 397 (by decide +kernel) rfl, wt_in 398 (by decide +kernel) rfl, wt_in 50 (by decide +kernel) rfl, wt_in 399 (by decide +kernel) rfl, by decide +kernel, by decide +kernel, by decide +kernel⟩
theorem foX4_129 : FieldOK RX4 129 1 2 := ⟨RX1, TX1, 16, rfl, by decide, iwX1, wt_in 141 (by decide +kernel) rfl⟩
theorem foX4_132 : FieldOK RX4 132 1 3 := ⟨RX1, TX1, 16, rfl, by decide, iwX1, wt_in 143 (by decide +kernel) rfl⟩
theorem foX4_135 : FieldOK RX4 135 0 1 := ⟨RX0, TX0, 5, rfl, by decide, iwX0, wt_in 345 (by decide +kernel) rfl⟩
theorem foX4_138 : FieldOK RX4 138 0 2 := ⟨RX0, TX0, 5, rfl, by decide, iwX0, wt_in 348 (by decide +kernel) rfl⟩
theorem ckX4_141 : CallOK RX4 141 yX2_offFrom cX2_offFrom 8 (some .int) 3 := ⟨wt_in 423 (by decide +kernel) rfl, wt_in 405 (by decide +kernel) rfl, wt_in 406 (by decide +kernel) rfl, wt_in 48 (by decide +kernel) rfl, wt_in 407 (by decide +kernel) rfl, by decide +kernel, by decide +kernel, by decide +kernel⟩
theorem ckX4_145 : CallOK RX4 145 yX1_settle cX1_settle 4 (some .int) 1 := ⟨wt_in 428 (by decide +kernel) rfl, wt_in 429 (by decide +kernel) rfl, wt_in 430 (by decide +kernel) rfl, wt_in 50 (by decide +kernel) rfl, wt_in 431 (by decide +kernel) rfl, by decide +kernel, by decide +kernel, by decide +kernel⟩
theorem foX4_149 : FieldOK RX4 149 1 4 := ⟨RX1, TX1, 16, rfl, by decide, iwX1, wt_in 145 (by decide +kernel) rfl⟩
theorem ckX4_152 : CallOK RX4 152 yX1_fits cX1_fits 3 (some .boolean) 1 := ⟨wt_in 475 (by decide +kernel) rfl, wt_in 476 (by decide +kernel) rfl, wt_in 477 (by decide +kernel) rfl, wt_in 50 (by decide +kernel) rfl, wt_in 478 (by decide +kernel) rfl, by decide +kernel, by decide +kernel, by decide +kernel⟩
theorem ckX4_156 : CallOK RX4 156 yX1_costOfRow cX1_costOfRow 7 (some .int) 1 := ⟨wt_in 483 (by decide +kernel) rfl, wt_in 484 (by decide +kernel) rfl, wt_in 485 (by decide +kernel) rfl, wt_in 50 (by decide +kernel) rfl, wt_in 486 (by decide +kernel) rfl, by decide +kernel, by decide +kernel, by decide +kernel⟩
theorem lcX4_160 : Cond.constant RX4 160 100000 ∈ WT := wt_in 499 (by decide +kernel) rfl
theorem ckX4_161 : CallOK RX4 161 yX1_sameInEnds cX1_sameInEnds 6 (some .int) 1 := ⟨wt_in 500 (by decide +kernel) rfl, wt_in 501 (by decide +kernel) rfl, wt_in 502 (by decide +kernel) rfl, wt_in 50 (by decide +kernel) rfl, wt_in 503 (by decide +kernel) rfl, by decide +kernel, by decide +kernel, by decide +kernel⟩
theorem ckX4_165 : CallOK RX4 165 yX1_feesOfLeastRow cX1_feesOfLeastRow 5 (some .int) 0 := ⟨wt_in 513 (by decide +kernel) rfl, wt_in 514 (by decide +kernel) rfl, wt_in 515 (by decide +kernel) rfl, wt_in 50 (by decide +kernel) rfl, wt_in 516 (by decide +kernel) rfl, by decide +kernel, by decide +kernel, by decide +kernel⟩
theorem ckX4_168 : CallOK RX4 168 yX1_speedBehind cX1_speedBehind 5 (some .int) 1 := ⟨wt_in 525 (by decide +kernel) rfl, wt_in 526 (by decide +kernel) rfl, wt_in 527 (by decide +kernel) rfl, wt_in 50 (by decide +kernel) rfl, wt_in 528 (by decide +kernel) rfl, by decide +kernel, by decide +kernel, by decide +kernel⟩
theorem foX4_171 : FieldOK RX4 171 2 5 := ⟨RX2, TX2, 10, rfl, by decide, iwX2, wt_in 80 (by decide +kernel) rfl⟩
theorem ckX4_174 : CallOK RX4 174 yX4_changeKind cX4_changeKind 3 none 2 := ⟨wt_in 533 (by decide +kernel) rfl, wt_in 535 (by decide +kernel) rfl, wt_in 23 (by decide +kernel) rfl, wt_in 47 (by decide +kernel) rfl, wt_in 536 (by decide +kernel) rfl, by decide +kernel, by decide +kernel, by decide +kernel⟩
theorem foX4_178 : FieldOK RX4 178 2 0 := ⟨RX2, TX2, 10, rfl, by decide, iwX2, wt_in 69 (by decide +kernel) rfl⟩
theorem foX4_181 : FieldOK RX4 181 2 3 := ⟨RX2, TX2, 10, rfl, by decide, iwX2, wt_in 75 (by decide +kernel) rfl⟩
theorem ckX4_184 : CallOK RX4 184 yX4_countSights cX4_countSights 4 (some .int) 0 := ⟨wt_in 542 (by decide +kernel) rfl, wt_in 544 (by decide +kernel) rfl, wt_in 24 (by decide +kernel) rfl, wt_in 47 (by decide +kernel) rfl, wt_in 545 (by decide +kernel) rfl, by decide +kernel, by decide +kernel, by decide +kernel⟩
theorem ckX4_187 : CallOK RX4 187 yX2_setKind cX2_setKind 3 none 2 := ⟨wt_in 537 (by decide +kernel) rfl, wt_in 256 (by decide +kernel) rfl, wt_in 257 (by decide +kernel) rfl, wt_in 48 (by decide +kernel) rfl, wt_in 258 (by decide +kernel) rfl, by decide +kernel, by decide +kernel, by decide +kernel⟩
theorem ckX4_190 : CallOK RX4 190 yX3_forget cX3_forget 2 none 0 := ⟨wt_in 243 (by decide +kernel) rfl, wt_in 244 (by decide +kernel) rfl, wt_in 245 (by decide +kernel) rfl, wt_in 49 (by decide +kernel) rfl, wt_in 246 (by decide +kernel) rfl, by decide +kernel, by decide +kernel, by decide +kernel⟩
theorem foX5_9 : FieldOK RX5 9 5 0 := ⟨RX5, TX5, 32, rfl, by decide, iwX5, wt_in 552 (by decide +kernel) rfl⟩
theorem foX5_13 : FieldOK RX5 13 5 1 := ⟨RX5, TX5, 32, rfl, by decide, iwX5, wt_in 553 (by decide +kernel) rfl⟩
theorem foX5_16 : FieldOK RX5 16 5 3 := ⟨RX5, TX5, 32, rfl, by decide, iwX5, wt_in 555 (by decide +kernel) rfl⟩
theorem foX5_19 : FieldOK RX5 19 5 4 := ⟨RX5, TX5, 32, rfl, by decide, iwX5, wt_in 556 (by decide +kernel) rfl⟩
theorem foX5_22 : FieldOK RX5 22 5 5 := ⟨RX5, TX5, 32, rfl, by decide, iwX5, wt_in 557 (by decide +kernel) rfl⟩
theorem foX5_25 : FieldOK RX5 25 5 6 := ⟨RX5, TX5, 32, rfl, by decide, iwX5, wt_in 558 (by decide +kernel) rfl⟩
theorem foX5_28 : FieldOK RX5 28 5 7 := ⟨RX5, TX5, 32, rfl, by decide, iwX5, wt_in 559 (by decide +kernel) rfl⟩
theorem foX5_31 : FieldOK RX5 31 5 9 := ⟨RX5, TX5, 32, rfl, by decide, iwX5, wt_in 561 (by decide +kernel) rfl⟩
theorem foX5_35 : FieldOK RX5 35 5 10 := ⟨RX5, TX5, 32, rfl, by decide, iwX5, wt_in 562 (by decide +kernel) rfl⟩
theorem foX5_38 : FieldOK RX5 38 5 11 := ⟨RX5, TX5, 32, rfl, by decide, iwX5, wt_in 563 (by decide +kernel) rfl⟩
theorem foX5_41 : FieldOK RX5 41 5 12 := ⟨RX5, TX5, 32, rfl, by decide, iwX5, wt_in 564 (by decide +kernel) rfl⟩
theorem foX5_44 : FieldOK RX5 44 5 13 := ⟨RX5, TX5, 32, rfl, by decide, iwX5, wt_in 565 (by decide +kernel) rfl⟩
theorem foX5_47 : FieldOK RX5 47 5 14 := ⟨RX5, TX5, 32, rfl, by decide, iwX5, wt_in 566 (by decide +kernel) rfl⟩
theorem foX5_50 : FieldOK RX5 50 5 16 := ⟨RX5, TX5, 32, rfl, by decide, iwX5, wt_in 568 (by decide +kernel) rfl⟩
theorem fwX5_50 : FieldW RX5 50 5 16 .int := ⟨RX5, TX5, 32, tyX5, rfl, by decide, iwX5, wt_in 568 (by decide +kernel) rfl, tyX5_ok, nmX5, rfl, by decide +kernel⟩
theorem foX5_54 : FieldOK RX5 54 5 17 := ⟨RX5, TX5, 32, rfl, by decide, iwX5, wt_in 569 (by decide +kernel) rfl⟩
theorem fwX5_54 : FieldW RX5 54 5 17 .int := ⟨RX5, TX5, 32, tyX5, rfl, by decide, iwX5, wt_in 569 (by decide +kernel) rfl, tyX5_ok, nmX5, rfl, by decide +kernel⟩
theorem foX5_57 : FieldOK RX5 57 5 18 := ⟨RX5, TX5, 32, rfl, by decide, iwX5, wt_in 570 (by decide +kernel) rfl⟩
theorem foX5_60 : FieldOK RX5 60 5 21 := ⟨RX5, TX5, 32, rfl, by decide, iwX5, wt_in 573 (by decide +kernel) rfl⟩
theorem foX5_63 : FieldOK RX5 63 5 22 := ⟨RX5, TX5, 32, rfl, by decide, iwX5, wt_in 574 (by decide +kernel) rfl⟩
theorem foX5_66 : FieldOK RX5 66 5 23 := ⟨RX5, TX5, 32, rfl, by decide, iwX5, wt_in 575 (by decide +kernel) rfl⟩
theorem foX5_69 : FieldOK RX5 69 5 24 := ⟨RX5, TX5, 32, rfl, by decide, iwX5, wt_in 576 (by decide +kernel) rfl⟩
theorem foX5_72 : FieldOK RX5 72 5 25 := ⟨RX5, TX5, 32, rfl, by decide, iwX5, wt_in 577 (by decide +kernel) rfl⟩
theorem foX5_75 : FieldOK RX5 75 5 26 := ⟨RX5, TX5, 32, rfl, by decide, iwX5, wt_in 578 (by decide +kernel) rfl⟩
theorem foX5_78 : FieldOK RX5 78 5 27 := ⟨RX5, TX5, 32, rfl, by decide, iwX5, wt_in 579 (by decide +kernel) rfl⟩
theorem foX5_81 : FieldOK RX5 81 5 28 := ⟨RX5, TX5, 32, rfl, by decide, iwX5, wt_in 580 (by decide +kernel) rfl⟩
theorem foX5_84 : FieldOK RX5 84 5 29 := ⟨RX5, TX5, 32, rfl, by decide, iwX5, wt_in 581 (by decide +kernel) rfl⟩
theorem ckX5_87 : CallSOK RX5 87 yX5_within cX5_within 3 (some .boolean) 3 := ⟨wt_in 653 (by decide +kernel) rfl, wt_in 654 (by decide +kernel) rfl, wt_in 51 (by decide +kernel) rfl, wt_in 655 (by decide +kernel) rfl, by decide +kernel, by decide +kernel, by decide +kernel⟩
theorem foX5_91 : FieldOK RX5 91 5 2 := ⟨RX5, TX5, 32, rfl, by decide, iwX5, wt_in 554 (by decide +kernel) rfl⟩
theorem fwX5_91 : FieldW RX5 91 5 2 .int := ⟨RX5, TX5, 32, tyX5, rfl, by decide, iwX5, wt_in 554 (by decide +kernel) rfl, tyX5_ok, nmX5, rfl, by decide +kernel⟩
theorem foX5_94 : FieldOK RX5 94 5 8 := ⟨RX5, TX5, 32, rfl, by decide, iwX5, wt_in 560 (by decide +kernel) rfl⟩
theorem ckX5_97 : CallOK RX5 97 yX5_isKnot cX5_isKnot 2 (some .boolean) 1 := ⟨wt_in 660 (by decide +kernel) rfl, wt_in 662 (by decide +kernel) rfl, wt_in 25 (by decide +kernel) rfl, wt_in 51 (by decide +kernel) rfl, wt_in 663 (by decide +kernel) rfl, by decide +kernel, by decide +kernel, by decide +kernel⟩
theorem fwX5_94 : FieldW RX5 94 5 8 .int := ⟨RX5, TX5, 32, tyX5, rfl, by decide, iwX5, wt_in 560 (by decide +kernel) rfl, tyX5_ok, nmX5, rfl, by decide +kernel⟩
theorem foX5_101 : FieldOK RX5 101 5 20 := ⟨RX5, TX5, 32, rfl, by decide, iwX5, wt_in 572 (by decide +kernel) rfl⟩
theorem fwX5_101 : FieldW RX5 101 5 20 .boolean := ⟨RX5, TX5, 32, tyX5, rfl, by decide, iwX5, wt_in 572 (by decide +kernel) rfl, tyX5_ok, nmX5, rfl, by decide +kernel⟩
theorem ckX5_105 : CallOK RX5 105 yX5_isRoad cX5_isRoad 2 (some .boolean) 1 := ⟨wt_in 668 (by decide +kernel) rfl, wt_in 670 (by decide +kernel) rfl, wt_in 26 (by decide +kernel) rfl, wt_in 51 (by decide +kernel) rfl, wt_in 671 (by decide +kernel) rfl, by decide +kernel, by decide +kernel, by decide +kernel⟩
theorem lcX5_108 : Cond.constant RX5 108 1000000000 ∈ WT := wt_in 688 (by decide +kernel) rfl
theorem ckX5_109 : CallOK RX5 109 yX5_feeOf cX5_feeOf 3 (some .int) 2 := ⟨wt_in 689 (by decide +kernel) rfl, wt_in 691 (by decide +kernel) rfl, wt_in 30 (by decide +kernel) rfl, wt_in 51 (by decide +kernel) rfl, wt_in 692 (by decide +kernel) rfl, by decide +kernel, by decide +kernel, by decide +kernel⟩
theorem ckX5_113 : CallOK RX5 113 yX5_come cX5_come 4 (some .boolean) 3 := ⟨wt_in 693 (by decide +kernel) rfl, wt_in 695 (by decide +kernel) rfl, wt_in 31 (by decide +kernel) rfl, wt_in 51 (by decide +kernel) rfl, wt_in 696 (by decide +kernel) rfl, by decide +kernel, by decide +kernel, by decide +kernel⟩
theorem ckX5_116 : CallOK RX5 116 yX5_goOn cX5_goOn 4 (some .boolean) 1 := ⟨wt_in 697 (by decide +kernel) rfl, wt_in 699 (by decide +kernel) rfl, wt_in 32 (by decide +kernel) rfl, wt_in 51 (by decide +kernel) rfl, wt_in 700 (by decide +kernel) rfl, by decide +kernel, by decide +kernel, by decide +kernel⟩
theorem ckX5_119 : CallOK RX5 119 yX5_knotOf cX5_knotOf 2 (some .int) 1 := ⟨wt_in 701 (by decide +kernel) rfl, wt_in 703 (by decide +kernel) rfl, wt_in 33 (by decide +kernel) rfl, wt_in 51 (by decide +kernel) rfl, wt_in 704 (by decide +kernel) rfl, by decide +kernel, by decide +kernel, by decide +kernel⟩
theorem ckX5_123 : CallOK RX5 123 yX5_offer cX5_offer 4 none 3 := ⟨wt_in 709 (by decide +kernel) rfl, wt_in 711 (by decide +kernel) rfl, wt_in 35 (by decide +kernel) rfl, wt_in 51 (by decide +kernel) rfl, wt_in 712 (by decide +kernel) rfl, by decide +kernel, by decide +kernel, by decide +kernel⟩
theorem ckX5_127 : CallOK RX5 127 yX5_comeFrom cX5_comeFrom 6 none 1 := ⟨wt_in 684 (by decide +kernel) rfl, wt_in 686 (by decide +kernel) rfl, wt_in 29 (by decide +kernel) rfl, wt_in 51 (by decide +kernel) rfl, wt_in 687 (by decide +kernel) rfl, by decide +kernel, by decide +kernel, by decide +kernel⟩
theorem ckX5_131 : CallOK RX5 131 yX5_reach cX5_reach 8 none 2 := ⟨wt_in 705 (by decide +kernel) rfl, wt_in 707 (by decide +kernel) rfl, wt_in 34 (by decide +kernel) rfl, wt_in 51 (by decide +kernel) rfl, wt_in 708 (by decide +kernel) rfl, by decide +kernel, by decide +kernel, by decide +kernel⟩
theorem ckX5_135 : CallOK RX5 135 yX5_isPoint cX5_isPoint 2 (some .boolean) 1 := ⟨wt_in 676 (by decide +kernel) rfl, wt_in 678 (by decide +kernel) rfl, wt_in 27 (by decide +kernel) rfl, wt_in 51 (by decide +kernel) rfl, wt_in 679 (by decide +kernel) rfl, by decide +kernel, by decide +kernel, by decide +kernel⟩
theorem ckX5_138 : CallOK RX5 138 yX5_findWays cX5_findWays 3 none 0 := ⟨wt_in 680 (by decide +kernel) rfl, wt_in 682 (by decide +kernel) rfl, wt_in 28 (by decide +kernel) rfl, wt_in 51 (by decide +kernel) rfl, wt_in 683 (by decide +kernel) rfl, by decide +kernel, by decide +kernel, by decide +kernel⟩
theorem foX5_141 : FieldOK RX5 141 5 15 := ⟨RX5, TX5, 32, rfl, by decide, iwX5, wt_in 567 (by decide +kernel) rfl⟩
theorem ckX5_144 : CallOK RX5 144 yX5_isDrive cX5_isDrive 2 (some .boolean) 1 := ⟨wt_in 725 (by decide +kernel) rfl, wt_in 727 (by decide +kernel) rfl, wt_in 36 (by decide +kernel) rfl, wt_in 51 (by decide +kernel) rfl, wt_in 728 (by decide +kernel) rfl, by decide +kernel, by decide +kernel, by decide +kernel⟩
theorem fwX5_141 : FieldW RX5 141 5 15 .int := ⟨RX5, TX5, 32, tyX5, rfl, by decide, iwX5, wt_in 567 (by decide +kernel) rfl, tyX5_ok, nmX5, rfl, by decide +kernel⟩
theorem foX5_147 : FieldOK RX5 147 5 31 := ⟨RX5, TX5, 32, rfl, by decide, iwX5, wt_in 583 (by decide +kernel) rfl⟩
theorem fwX5_147 : FieldW RX5 147 5 31 .int := ⟨RX5, TX5, 32, tyX5, rfl, by decide, iwX5, wt_in 583 (by decide +kernel) rfl, tyX5_ok, nmX5, rfl, by decide +kernel⟩
theorem ckX5_150 : CallOK RX5 150 yX5_offOf cX5_offOf 8 (some .int) 3 := ⟨wt_in 749 (by decide +kernel) rfl, wt_in 751 (by decide +kernel) rfl, wt_in 39 (by decide +kernel) rfl, wt_in 51 (by decide +kernel) rfl, wt_in 752 (by decide +kernel) rfl, by decide +kernel, by decide +kernel, by decide +kernel⟩
theorem ckX5_154 : CallOK RX5 154 yX5_isSight cX5_isSight 3 (some .boolean) 2 := ⟨wt_in 741 (by decide +kernel) rfl, wt_in 743 (by decide +kernel) rfl, wt_in 37 (by decide +kernel) rfl, wt_in 51 (by decide +kernel) rfl, wt_in 744 (by decide +kernel) rfl, by decide +kernel, by decide +kernel, by decide +kernel⟩
theorem ckX5_158 : CallOK RX5 158 yX5_findSpots cX5_findSpots 9 none 1 := ⟨wt_in 745 (by decide +kernel) rfl, wt_in 747 (by decide +kernel) rfl, wt_in 38 (by decide +kernel) rfl, wt_in 51 (by decide +kernel) rfl, wt_in 748 (by decide +kernel) rfl, by decide +kernel, by decide +kernel, by decide +kernel⟩
theorem ckX5_161 : CallOK RX5 161 yX5_step cX5_step 7 (some .int) 4 := ⟨wt_in 773 (by decide +kernel) rfl, wt_in 775 (by decide +kernel) rfl, wt_in 43 (by decide +kernel) rfl, wt_in 51 (by decide +kernel) rfl, wt_in 776 (by decide +kernel) rfl, by decide +kernel, by decide +kernel, by decide +kernel⟩
theorem ckX5_165 : CallOK RX5 165 yX5_behind cX5_behind 14 (some .int) 5 := ⟨wt_in 769 (by decide +kernel) rfl, wt_in 771 (by decide +kernel) rfl, wt_in 42 (by decide +kernel) rfl, wt_in 51 (by decide +kernel) rfl, wt_in 772 (by decide +kernel) rfl, by decide +kernel, by decide +kernel, by decide +kernel⟩
theorem foX5_169 : FieldOK RX5 169 5 30 := ⟨RX5, TX5, 32, rfl, by decide, iwX5, wt_in 582 (by decide +kernel) rfl⟩
theorem fwX5_169 : FieldW RX5 169 5 30 .int := ⟨RX5, TX5, 32, tyX5, rfl, by decide, iwX5, wt_in 582 (by decide +kernel) rfl, tyX5_ok, nmX5, rfl, by decide +kernel⟩
theorem ckX5_172 : CallOK RX5 172 yX5_findRow cX5_findRow 11 none 2 := ⟨wt_in 765 (by decide +kernel) rfl, wt_in 767 (by decide +kernel) rfl, wt_in 41 (by decide +kernel) rfl, wt_in 51 (by decide +kernel) rfl, wt_in 768 (by decide +kernel) rfl, by decide +kernel, by decide +kernel, by decide +kernel⟩
theorem ckX5_175 : CallOK RX5 175 yX5_lay cX5_lay 2 none 1 := ⟨wt_in 761 (by decide +kernel) rfl, wt_in 763 (by decide +kernel) rfl, wt_in 40 (by decide +kernel) rfl, wt_in 51 (by decide +kernel) rfl, wt_in 764 (by decide +kernel) rfl, by decide +kernel, by decide +kernel, by decide +kernel⟩
theorem foX5_178 : FieldOK RX5 178 5 19 := ⟨RX5, TX5, 32, rfl, by decide, iwX5, wt_in 571 (by decide +kernel) rfl⟩
theorem fwX5_178 : FieldW RX5 178 5 19 .int := ⟨RX5, TX5, 32, tyX5, rfl, by decide, iwX5, wt_in 571 (by decide +kernel) rfl, tyX5_ok, nmX5, rfl, by decide +kernel⟩
theorem ckX5_181 : CallOK RX5 181 yX5_isSpot cX5_isSpot 5 (some .boolean) 2 := ⟨wt_in 785 (by decide +kernel) rfl, wt_in 787 (by decide +kernel) rfl, wt_in 44 (by decide +kernel) rfl, wt_in 51 (by decide +kernel) rfl, wt_in 788 (by decide +kernel) rfl, by decide +kernel, by decide +kernel, by decide +kernel⟩
theorem lcX5_184 : Cond.constant RX5 184 100000 ∈ WT := wt_in 797 (by decide +kernel) rfl
theorem ckX5_185 : CallOK RX5 185 yX5_alike cX5_alike 4 (some .int) 2 := ⟨wt_in 798 (by decide +kernel) rfl, wt_in 800 (by decide +kernel) rfl, wt_in 45 (by decide +kernel) rfl, wt_in 51 (by decide +kernel) rfl, wt_in 801 (by decide +kernel) rfl, by decide +kernel, by decide +kernel, by decide +kernel⟩
theorem mj_min : Cond.static Lib.Math.min.name ∈ WT ∧ Cond.code Lib.Math.min.name Lib.Math.min.code 2 (some .int) ∈ WT := ⟨wt_in 324 (by decide +kernel) rfl, wt_in 325 (by decide +kernel) rfl⟩
theorem mj_abs : Cond.static Lib.Math.abs.name ∈ WT ∧ Cond.code Lib.Math.abs.name Lib.Math.abs.code 1 (some .int) ∈ WT := ⟨wt_in 317 (by decide +kernel) rfl, wt_in 318 (by decide +kernel) rfl⟩
theorem mj_ini : Cond.initialized "java/lang/Math" ∈ WT := wt_in 52 (by decide +kernel) rfl
end
section
-- the rules that the printed walks use (own work)
def bindv {α β : Type} (x : α) (f : α → β) : β := f x
def cb {α β : Type} (x : Option (α × ST)) (k : α → ST → Option β) : Option β := x.bind (fun q => k q.1 q.2)
abbrev emI : Int32 → Option AV := fun x => some (.inl x)
abbrev emV : Unit → Option AV := fun _ => none
abbrev emR : Option Nat → Option AV := fun x => some (.inr x)
def wk (L' L : List (Option AV)) : Prop := ∀ (i : Nat) (v : AV), L'[i]? = some (some v) → L[i]? = some (some v)
theorem wk_nil {L : List (Option AV)} : wk [] L := fun i v h => by simp at h
theorem wk_none {L' L : List (Option AV)} {o : Option AV} (h : wk L' L) : wk (none :: L') (o :: L) := fun i v hi => by
  cases i with
  | zero => simp at hi
  | succ i => exact h i v (by simpa using hi)
theorem wk_same {L' L : List (Option AV)} {o : Option AV} (h : wk L' L) : wk (o :: L') (o :: L) := fun i v hi => by
  cases i with
  | zero => exact hi
  | succ i => exact h i v (by simpa using hi)
section AWB
variable {wl : WL} {y : MethodName} {cc : ByteArray} {nL : Nat} {ret : Option FieldType} {rm : Room} {ρ : Type} {em : ρ → Option AV} {K K1 K2 : Option (ρ × ST)} {pc : Nat} {L L' : List (Option AV)} {st : List AV} {σ : ST}
theorem aw_wk (hs : wk L' L) (k : AW wl y cc nL ret rm em K pc L' st σ) : AW wl y cc nL ret rm em K pc L st σ := aw_weak hs k
theorem aw_stn {kk : Fin 4} {i : Nat} {x : Int32} (hd : decode cc pc = .ok (.istore_n kk, 1)) (hi : (kk : Nat) = i) (hn : i < nL) (hL : L.set i (some (.inl x)) = L') (k : AW wl y cc nL ret rm em K (pc + 1) L' st σ) : AW wl y cc nL ret rm em K pc L (.inl x :: st) σ := by subst hL; exact aw_istore_n hd hi hn k
theorem aw_st {i : Nat} {x : Int32} (hd : decode cc pc = .ok (.istore i, 2)) (hn : i < nL) (hL : L.set i (some (.inl x)) = L') (k : AW wl y cc nL ret rm em K (pc + 2) L' st σ) : AW wl y cc nL ret rm em K pc L (.inl x :: st) σ := by subst hL; exact aw_istore hd hn k
theorem aw_stnB {kk : Fin 4} {i : Nat} {x : Int32} {f : Int32 → Option (ρ × ST)} {Lf : Int32 → List (Option AV)} (hd : decode cc pc = .ok (.istore_n kk, 1)) (hi : (kk : Nat) = i) (hn : i < nL) (hL : ∀ v, L.set i (some (.inl v)) = Lf v) (k : ∀ v, AW wl y cc nL ret rm em (f v) (pc + 1) (Lf v) st σ) : AW wl y cc nL ret rm em (bindv x f) pc L (.inl x :: st) σ := aw_istore_n hd hi hn ((hL x).symm ▸ k x)
theorem aw_stB {i : Nat} {x : Int32} {f : Int32 → Option (ρ × ST)} {Lf : Int32 → List (Option AV)} (hd : decode cc pc = .ok (.istore i, 2)) (hn : i < nL) (hL : ∀ v, L.set i (some (.inl v)) = Lf v) (k : ∀ v, AW wl y cc nL ret rm em (f v) (pc + 2) (Lf v) st σ) : AW wl y cc nL ret rm em (bindv x f) pc L (.inl x :: st) σ := aw_istore hd hn ((hL x).symm ▸ k x)
theorem aw_iincB {i : Nat} {n : Int} {x v : Int32} {f : Int32 → Option (ρ × ST)} {Lf : Int32 → List (Option AV)} (hd : decode cc pc = .ok (.iinc i n, 3)) (hx : L[i]? = some (some (.inl x))) (hv : Int32.ofInt n = v) (hn : i < nL) (hL : ∀ v, L.set i (some (.inl v)) = Lf v) (k : ∀ v, AW wl y cc nL ret rm em (f v) (pc + 3) (Lf v) st σ) : AW wl y cc nL ret rm em (bindv (x + v) f) pc L st σ := aw_iinc hd hx hv hn ((hL (x + v)).symm ▸ k (x + v))
theorem aw_astn {kk : Fin 4} {i : Nat} {x : Option Nat} (hd : decode cc pc = .ok (.astore_n kk, 1)) (hi : (kk : Nat) = i) (hn : i < nL) (hL : L.set i (some (.inr x)) = L') (k : AW wl y cc nL ret rm em K (pc + 1) L' st σ) : AW wl y cc nL ret rm em K pc L (.inr x :: st) σ := by subst hL; exact aw_astore_n hd hi hn k
theorem aw_ast {i : Nat} {x : Option Nat} (hd : decode cc pc = .ok (.astore i, 2)) (hn : i < nL) (hL : L.set i (some (.inr x)) = L') (k : AW wl y cc nL ret rm em K (pc + 2) L' st σ) : AW wl y cc nL ret rm em K pc L (.inr x :: st) σ := by subst hL; exact aw_astore hd hn k
theorem aw_null (hd : decode cc pc = .ok (.aconst_null, 1)) (k : AW wl y cc nL ret rm em K (pc + 1) L (.inr none :: st) σ) : AW wl y cc nL ret rm em K pc L st σ := by
  intro r σ' hK p l e s m args below meth c D cI cZ cD A hC ad H locs ls hP hD hS hl
  exact lv_null hC.1 hC.2.1 hd (k r σ' hK p l e s m args below meth c D cI cZ cD A hC ad H locs ls hP hD hS hl)
theorem aw_elim {x : Option Nat} {f : Nat → Option (ρ × ST)} {off : Int} {tgt : Nat} (hd : decode cc pc = .ok (.ifnull off, 3)) (ht : (pc : Int) + off = (tgt : Int)) (kt : x = none → AW wl y cc nL ret rm em K1 tgt L st σ) (kf : ∀ k, x = some k → AW wl y cc nL ret rm em (f k) (pc + 3) L st σ) : AW wl y cc nL ret rm em (x.elim K1 f) pc L (.inr x :: st) σ := by
  intro r σ' hK p l e s m args below meth c D cI cZ cD A hC ad H locs ls hP hD hS hl
  cases x with
  | none => exact lv_ifnullN hC.1 hC.2.1 hd ht (kt rfl r σ' hK p l e s m args below meth c D cI cZ cD A hC ad H locs ls hP hD hS hl)
  | some a => exact lv_ifnull hC.1 hC.2.1 hd (kf a rfl r σ' hK p l e s m args below meth c D cI cZ cD A hC ad H locs ls hP hD hS hl)
theorem aw_elimN {x : Option Nat} {f : Nat → Option (ρ × ST)} {off : Int} {tgt : Nat} (hd : decode cc pc = .ok (.ifnonnull off, 3)) (ht : (pc : Int) + off = (tgt : Int)) (kf : x = none → AW wl y cc nL ret rm em K1 (pc + 3) L st σ) (kt : ∀ k, x = some k → AW wl y cc nL ret rm em (f k) tgt L st σ) : AW wl y cc nL ret rm em (x.elim K1 f) pc L (.inr x :: st) σ := by
  intro r σ' hK p l e s m args below meth c D cI cZ cD A hC ad H locs ls hP hD hS hl
  cases x with
  | none => exact lv_ifnonnullN hC.1 hC.2.1 hd (kf rfl r σ' hK p l e s m args below meth c D cI cZ cD A hC ad H locs ls hP hD hS hl)
  | some a => exact lv_ifnonnull hC.1 hC.2.1 hd ht (kt a rfl r σ' hK p l e s m args below meth c D cI cZ cD A hC ad H locs ls hP hD hS hl)
theorem aw_putB {idx k ci j : Nat} {fs : List AV} {v : AV} {ty : FieldType} {σ2 : ST} {f : ST → Option (ρ × ST)} (hF : FieldW y.cls idx ci j ty) (hO : ObjAt wl σ k ci fs) (hj : j < fs.length) (hn : ∀ ad, narrow ty (av_v ad v) = av_v ad v) (hfit : ∀ ad, fits ty (av_v ad v) = true) (hs : ∀ cI cZ cD ad, (wl cI cZ cD ad σ).set k (ad k, .inr (ci, (fs.set j v).map (av_v ad))) = wl cI cZ cD ad σ2) (hd : decode cc pc = .ok (.putfield idx, 3)) (kk : ∀ τ, AW wl y cc nL ret rm em (f τ) (pc + 3) L st τ) : AW wl y cc nL ret rm em (bindv σ2 f) pc L (v :: .inr (some k) :: st) σ := aw_put hF hO hj hn hfit hs hd (kk σ2)
theorem aw_putI {idx k ci j : Nat} {fs : List AV} {x : Int32} {σ2 : ST} {f : ST → Option (ρ × ST)} (hF : FieldW y.cls idx ci j .int) (hO : ObjAt wl σ k ci fs) (hj : j < fs.length) (hs : ∀ cI cZ cD ad, (wl cI cZ cD ad σ).set k (ad k, .inr (ci, (fs.set j (.inl x)).map (av_v ad))) = wl cI cZ cD ad σ2) (hd : decode cc pc = .ok (.putfield idx, 3)) (kk : ∀ τ, AW wl y cc nL ret rm em (f τ) (pc + 3) L st τ) : AW wl y cc nL ret rm em (bindv σ2 f) pc L (.inl x :: .inr (some k) :: st) σ := aw_putB hF hO hj (fun _ => rfl) (fun _ => rfl) hs hd kk
theorem aw_putZ {idx k ci j : Nat} {fs : List AV} {x : Int32} {σ2 : ST} {f : ST → Option (ρ × ST)} (hF : FieldW y.cls idx ci j .boolean) (hO : ObjAt wl σ k ci fs) (hj : j < fs.length) (hx : x = 0 ∨ x = 1) (hs : ∀ cI cZ cD ad, (wl cI cZ cD ad σ).set k (ad k, .inr (ci, (fs.set j (.inl x)).map (av_v ad))) = wl cI cZ cD ad σ2) (hd : decode cc pc = .ok (.putfield idx, 3)) (kk : ∀ τ, AW wl y cc nL ret rm em (f τ) (pc + 3) L st τ) : AW wl y cc nL ret rm em (bindv σ2 f) pc L (.inl x :: .inr (some k) :: st) σ := by
  refine aw_putB hF hO hj ?_ ?_ hs hd kk
  · rcases hx with rfl | rfl <;> exact fun _ => rfl
  · rcases hx with rfl | rfl <;> exact fun _ => rfl
theorem aw_putQ {idx k ci j : Nat} {fs : List AV} {x : Option Nat} {C : String} {σ2 : ST} {f : ST → Option (ρ × ST)} (hF : FieldW y.cls idx ci j (.object C)) (hO : ObjAt wl σ k ci fs) (hj : j < fs.length) (hs : ∀ cI cZ cD ad, (wl cI cZ cD ad σ).set k (ad k, .inr (ci, (fs.set j (.inr x)).map (av_v ad))) = wl cI cZ cD ad σ2) (hd : decode cc pc = .ok (.putfield idx, 3)) (kk : ∀ τ, AW wl y cc nL ret rm em (f τ) (pc + 3) L st τ) : AW wl y cc nL ret rm em (bindv σ2 f) pc L (.inr x :: .inr (some k) :: st) σ := by
  refine aw_putB hF hO hj ?_ ?_ hs hd kk
  · cases x <;> exact fun _ => rfl
  · cases x <;> exact fun _ => rfl
theorem aw_iastB {k n : Nat} {g : Nat → Int32} {i x : Int32} {σ2 : ST} {f : ST → Option (ρ × ST)} {d : Decidable (ib i n = true)} (hI : IntAt wl σ k n g) (hs : ∀ cI cZ cD ad, (wl cI cZ cD ad σ).set k (ad k, .inl (cI, n, .inl (upd g i.toNatClampNeg x))) = wl cI cZ cD ad σ2) (hd : decode cc pc = .ok (.iastore, 1)) (kk : ∀ τ, AW wl y cc nL ret rm em (f τ) (pc + 1) L st τ) : AW wl y cc nL ret rm em (@ite _ (ib i n = true) d (bindv σ2 f) none) pc L (.inl x :: .inl i :: .inr (some k) :: st) σ := aw_iast hI hs hd (fun _ => kk σ2)
theorem aw_bastB {k n : Nat} {g : Nat → Int32} {i x : Int32} {σ2 : ST} {f : ST → Option (ρ × ST)} {d : Decidable (ib i n = true)} (hI : BoolAt wl σ k n g) (hs : ∀ cI cZ cD ad, (wl cI cZ cD ad σ).set k (ad k, .inl (cZ, n, .inl (upd g i.toNatClampNeg (vp_nar .boolean x)))) = wl cI cZ cD ad σ2) (hd : decode cc pc = .ok (.bastore, 1)) (kk : ∀ τ, AW wl y cc nL ret rm em (f τ) (pc + 1) L st τ) : AW wl y cc nL ret rm em (@ite _ (ib i n = true) d (bindv σ2 f) none) pc L (.inl x :: .inl i :: .inr (some k) :: st) σ := aw_bast hI hs hd (fun _ => kk σ2)
theorem aw_iald' {k n : Nat} {g : Nat → Int32} {i : Int32} {d : Decidable (ib i n = true)} (hI : IntAt wl σ k n g) (hd : decode cc pc = .ok (.iaload, 1)) (kk : AW wl y cc nL ret rm em K (pc + 1) L (.inl (g i.toNatClampNeg) :: st) σ) : AW wl y cc nL ret rm em (@ite _ (ib i n = true) d K none) pc L (.inl i :: .inr (some k) :: st) σ := aw_iald hI hd (fun _ => kk)
theorem aw_bald' {k n : Nat} {g : Nat → Int32} {i : Int32} {d : Decidable (ib i n = true)} (hI : BoolAt wl σ k n g) (hd : decode cc pc = .ok (.baload, 1)) (kk : AW wl y cc nL ret rm em K (pc + 1) L (.inl (g i.toNatClampNeg) :: st) σ) : AW wl y cc nL ret rm em (@ite _ (ib i n = true) d K none) pc L (.inl i :: .inr (some k) :: st) σ := aw_bald hI hd (fun _ => kk)
theorem aw_aaldB {k n : Nat} {g : Nat → Option Nat} {i : Int32} {f : Option Nat → Option (ρ × ST)} {d : Decidable (ib i n = true)} (hI : RefAt wl σ k n g) (hd : decode cc pc = .ok (.aaload, 1)) (kk : ∀ v, AW wl y cc nL ret rm em (f v) (pc + 1) L (.inr v :: st) σ) : AW wl y cc nL ret rm em (@ite _ (ib i n = true) d (bindv (g i.toNatClampNeg) f) none) pc L (.inl i :: .inr (some k) :: st) σ := aw_aald hI hd (fun _ => kk _)
theorem aw_rz {v : Int32} {d : Decidable (v = 0 ∨ v = 1)} {rr : ρ} (hem : em rr = some (.inl v)) (hr : ret = some .boolean) (hd : decode cc pc = .ok (.ireturn, 1)) : AW wl y cc nL ret rm em (@ite _ (v = 0 ∨ v = 1) d (some (rr, σ)) none) pc L [.inl v] σ := aw_chk (fun h => aw_ret_i hem hr (by rcases h with rfl | rfl <;> rfl) hd)
theorem aw_switch5 {x : Int32} {d0 : Decidable (x = 0)} {d1 : Decidable (x = 1)} {d2 : Decidable (x = 2)} {d3 : Decidable (x = 3)} {d4 : Decidable (x = 4)} {k0 k1 k2 k3 k4 kd : Option (ρ × ST)} {df o0 o1 o2 o3 o4 : Int} {len t0 t1 t2 t3 t4 td : Nat} (hd : decode cc pc = .ok (.tableswitch df 0 4 #[o0, o1, o2, o3, o4], len)) (h0 : (pc : Int) + o0 = (t0 : Int)) (h1 : (pc : Int) + o1 = (t1 : Int)) (h2 : (pc : Int) + o2 = (t2 : Int)) (h3 : (pc : Int) + o3 = (t3 : Int)) (h4 : (pc : Int) + o4 = (t4 : Int)) (hdf : (pc : Int) + df = (td : Int))
    (q0 : AW wl y cc nL ret rm em k0 t0 L st σ) (q1 : AW wl y cc nL ret rm em k1 t1 L st σ) (q2 : AW wl y cc nL ret rm em k2 t2 L st σ) (q3 : AW wl y cc nL ret rm em k3 t3 L st σ) (q4 : AW wl y cc nL ret rm em k4 t4 L st σ) (qd : AW wl y cc nL ret rm em kd td L st σ) :
    AW wl y cc nL ret rm em (@ite _ (x = 0) d0 k0 (@ite _ (x = 1) d1 k1 (@ite _ (x = 2) d2 k2 (@ite _ (x = 3) d3 k3 (@ite _ (x = 4) d4 k4 kd))))) pc L (.inl x :: st) σ := by
  intro r σ' hK p l e s m args below meth c D cI cZ cD A hC ad H locs ls hP hD hS hl
  by_cases e0 : x = 0
  · rw [if_pos e0] at hK; subst e0
    exact lv_tableIn (off := o0) hC.1 hC.2.1 hd (by decide) (by decide) rfl h0 (q0 r σ' hK p l e s m args below meth c D cI cZ cD A hC ad H locs ls hP hD hS hl)
  rw [if_neg e0] at hK
  by_cases e1 : x = 1
  · rw [if_pos e1] at hK; subst e1
    exact lv_tableIn (off := o1) hC.1 hC.2.1 hd (by decide) (by decide) rfl h1 (q1 r σ' hK p l e s m args below meth c D cI cZ cD A hC ad H locs ls hP hD hS hl)
  rw [if_neg e1] at hK
  by_cases e2 : x = 2
  · rw [if_pos e2] at hK; subst e2
    exact lv_tableIn (off := o2) hC.1 hC.2.1 hd (by decide) (by decide) rfl h2 (q2 r σ' hK p l e s m args below meth c D cI cZ cD A hC ad H locs ls hP hD hS hl)
  rw [if_neg e2] at hK
  by_cases e3 : x = 3
  · rw [if_pos e3] at hK; subst e3
    exact lv_tableIn (off := o3) hC.1 hC.2.1 hd (by decide) (by decide) rfl h3 (q3 r σ' hK p l e s m args below meth c D cI cZ cD A hC ad H locs ls hP hD hS hl)
  rw [if_neg e3] at hK
  by_cases e4 : x = 4
  · rw [if_pos e4] at hK; subst e4
    exact lv_tableIn (off := o4) hC.1 hC.2.1 hd (by decide) (by decide) rfl h4 (q4 r σ' hK p l e s m args below meth c D cI cZ cD A hC ad H locs ls hP hD hS hl)
  rw [if_neg e4] at hK
  refine lv_tableOut hC.1 hC.2.1 hd ?_ hdf (qd r σ' hK p l e s m args below meth c D cI cZ cD A hC ad H locs ls hP hD hS hl)
  have g : ∀ n : Int32, x ≠ n → x.toInt ≠ n.toInt := fun n hn h => hn (Int32.toInt_inj.mp h)
  have a0 : x.toInt ≠ 0 := g 0 e0
  have a1 : x.toInt ≠ 1 := g 1 e1
  have a2 : x.toInt ≠ 2 := g 2 e2
  have a3 : x.toInt ≠ 3 := g 3 e3
  have a4 : x.toInt ≠ 4 := g 4 e4
  omega
variable {ρ2 : Type} {y2 : MethodName} {cc2 : ByteArray} {nL2 : Nat} {ret2 : Option FieldType} {rm2 : Room} {as : List AV} {b ci idx : Nat} {fs : List AV} {T : u_T} {N : Nat} {stk : List AV}
theorem aw_cVI {K2 : Option (Int32 × ST)} {k : Int32 → ST → Option (ρ × ST)} (hM : MS wl y2 cc2 nL2 ret2 rm2 emI (.inr (some b) :: as) σ K2) (hO : ObjAt wl σ b ci fs) (hc : vwCl[ci]? = some (y2.cls, T, N)) (hC2 : CallOK y.cls idx y2 cc2 nL2 ret2 as.length) (hR : RoomOK rm rm2 nL2) (hst : st.length ≤ 8) (hd : decode cc pc = .ok (.invokevirtual idx, 3)) (hstk : stk = as.reverse ++ .inr (some b) :: st)
    (kk : ∀ r2 σ2, AW wl y cc nL ret rm em (k r2 σ2) (pc + 3) L (.inl r2 :: st) σ2) : AW wl y cc nL ret rm em (cb K2 k) pc L stk σ := aw_callV hM hO hc hC2 hR hst hd hstk kk
theorem aw_cVV {K2 : Option (Unit × ST)} {k : Unit → ST → Option (ρ × ST)} (hM : MS wl y2 cc2 nL2 ret2 rm2 emV (.inr (some b) :: as) σ K2) (hO : ObjAt wl σ b ci fs) (hc : vwCl[ci]? = some (y2.cls, T, N)) (hC2 : CallOK y.cls idx y2 cc2 nL2 ret2 as.length) (hR : RoomOK rm rm2 nL2) (hst : st.length ≤ 8) (hd : decode cc pc = .ok (.invokevirtual idx, 3)) (hstk : stk = as.reverse ++ .inr (some b) :: st)
    (kk : ∀ r2 σ2, AW wl y cc nL ret rm em (k r2 σ2) (pc + 3) L st σ2) : AW wl y cc nL ret rm em (cb K2 k) pc L stk σ := aw_callV hM hO hc hC2 hR hst hd hstk kk
theorem aw_cVR {K2 : Option (Option Nat × ST)} {k : Option Nat → ST → Option (ρ × ST)} (hM : MS wl y2 cc2 nL2 ret2 rm2 emR (.inr (some b) :: as) σ K2) (hO : ObjAt wl σ b ci fs) (hc : vwCl[ci]? = some (y2.cls, T, N)) (hC2 : CallOK y.cls idx y2 cc2 nL2 ret2 as.length) (hR : RoomOK rm rm2 nL2) (hst : st.length ≤ 8) (hd : decode cc pc = .ok (.invokevirtual idx, 3)) (hstk : stk = as.reverse ++ .inr (some b) :: st)
    (kk : ∀ r2 σ2, AW wl y cc nL ret rm em (k r2 σ2) (pc + 3) L (.inr r2 :: st) σ2) : AW wl y cc nL ret rm em (cb K2 k) pc L stk σ := aw_callV hM hO hc hC2 hR hst hd hstk kk
theorem aw_cSI {K2 : Option (Int32 × ST)} {k : Int32 → ST → Option (ρ × ST)} (hM : MS wl y2 cc2 nL2 ret2 rm2 emI as σ K2) (hC2 : CallSOK y.cls idx y2 cc2 nL2 ret2 as.length) (hR : RoomOK rm rm2 nL2) (hst : st.length ≤ 8) (hd : decode cc pc = .ok (.invokestatic idx, 3)) (hstk : stk = as.reverse ++ st)
    (kk : ∀ r2 σ2, AW wl y cc nL ret rm em (k r2 σ2) (pc + 3) L (.inl r2 :: st) σ2) : AW wl y cc nL ret rm em (cb K2 k) pc L stk σ := aw_callS hM hC2 hR hst hd hstk kk
end AWB
section AWX
variable {y : MethodName} {cc : ByteArray} {nL : Nat} {ret : Option FieldType} {rm : Room} {ρ : Type} {em : ρ → Option AV} {K K1 K2 : Option (ρ × ST)} {pc : Nat} {L L' : List (Option AV)} {st : List AV} {σ : ST}
theorem aw_getD {idx k j : Nat} {v : AV} {d : Decidable (isDr σ k = true)} (hF : FieldOK y.cls idx 0 j) (hv : (obD σ k)[j]? = some v) (hd : decode cc pc = .ok (.getfield idx, 3)) (kk : AW wlX y cc nL ret rm em K (pc + 3) L (v :: st) σ) : AW wlX y cc nL ret rm em (@ite _ (isDr σ k = true) d K none) pc L (.inr (some k) :: st) σ := aw_chk (fun h => aw_get hF (atD h) hv hd kk)
theorem aw_putD {idx k : Nat} {x : Int32} {f : ST → Option (ρ × ST)} {d : Decidable (isDr σ k = true)} (hF : FieldW y.cls idx 0 0 .int) (hd : decode cc pc = .ok (.putfield idx, 3)) (kk : ∀ τ, AW wlX y cc nL ret rm em (f τ) (pc + 3) L st τ) : AW wlX y cc nL ret rm em (@ite _ (isDr σ k = true) d (bindv (stI σ k 0 x) f) none) pc L (.inl x :: .inr (some k) :: st) σ := aw_chk (fun h => aw_putI hF (atD h) (Nat.zero_lt_succ _) (stD h x) hd kk)
theorem aw_ildR {k : Nat} {i : Int32} {d : Decidable ((isRw σ k && ib i 20) = true)} (hd : decode cc pc = .ok (.iaload, 1)) (kk : AW wlX y cc nL ret rm em K (pc + 1) L (.inl (σ.1 k i.toNatClampNeg) :: st) σ) : AW wlX y cc nL ret rm em (@ite _ ((isRw σ k && ib i 20) = true) d K none) pc L (.inl i :: .inr (some k) :: st) σ := aw_chk (fun h => by
  rw [Bool.and_eq_true] at h
  have := aw_iald (K := K) (i := i) (d := inferInstance) (atR h.1) hd (fun _ => kk)
  rw [if_pos h.2] at this
  exact this)
theorem aw_istR {k : Nat} {i x : Int32} {f : ST → Option (ρ × ST)} {d : Decidable ((isRw σ k && ib i 20) = true)} (hd : decode cc pc = .ok (.iastore, 1)) (kk : ∀ τ, AW wlX y cc nL ret rm em (f τ) (pc + 1) L st τ) : AW wlX y cc nL ret rm em (@ite _ ((isRw σ k && ib i 20) = true) d (bindv (stI σ k i.toNatClampNeg x) f) none) pc L (.inl x :: .inl i :: .inr (some k) :: st) σ := aw_chk (fun h => by
  rw [Bool.and_eq_true] at h
  have := aw_iastB (i := i) (x := x) (f := f) (d := inferInstance) (atR h.1) (stRw h.1 i.toNatClampNeg x) hd kk
  rw [if_pos h.2] at this
  exact this)
theorem wlX_inj {σ : ST} {cI cZ cD : ClassId} {ad : Nat → Nat} {A : Nat → Prop} (h : va_D A (wlX cI cZ cD ad σ)) {a b : Nat} (ha : a < nX σ) (hb : b < nX σ) (e : ad a = ad b) : a = b := h.1 a b _ _ (wlOf_at ha) (wlOf_at hb) e
/-- two references of the class's side are the same cell just when their names are -/
def refOK (σ : ST) (a : Option Nat) : Bool := match a with
  | none => true
  | some k => decide (k < nX σ)
theorem aw_acmpX {a b : Option Nat} {d0 : Decidable ((refOK σ a && refOK σ b) = true)} {d : Decidable (a = b)} {off : Int} {tgt : Nat} (hd : decode cc pc = .ok (.if_acmp .ne off, 3)) (ht : (pc : Int) + off = (tgt : Int)) (kf : a = b → AW wlX y cc nL ret rm em K1 (pc + 3) L st σ) (kt : ¬ a = b → AW wlX y cc nL ret rm em K2 tgt L st σ) : AW wlX y cc nL ret rm em (@ite _ ((refOK σ a && refOK σ b) = true) d0 (@ite _ (a = b) d K1 K2) none) pc L (.inr b :: .inr a :: st) σ := aw_chk (fun h => by
  rw [Bool.and_eq_true] at h
  refine aw_acmp_ne (fun cI cZ cD ad A hD => ⟨fun e => ?_, fun e => by rw [e]⟩) hd ht kf kt
  cases a with
  | none => cases b with
    | none => rfl
    | some b => cases e
  | some a => cases b with
    | none => cases e
    | some b =>
      have e2 : ad a = ad b := Option.some.inj e
      rw [wlX_inj hD (of_decide_eq_true h.1) (of_decide_eq_true h.2) e2])
end AWX
end
section
section AWE
variable {wl : WL} {y : MethodName} {cc : ByteArray} {nL : Nat} {ret : Option FieldType} {rm : Room} {ρ : Type} {em : ρ → Option AV} {K K1 K2 : Option (ρ × ST)} {pc : Nat} {L L' : List (Option AV)} {st : List AV} {σ : ST}
theorem aw_deref {x : Option Nat} {f : Nat → Option (ρ × ST)} (h : ∀ k, x = some k → AW wl y cc nL ret rm em (f k) pc L st σ) : AW wl y cc nL ret rm em (x.elim none f) pc L st σ := by
  cases x with
  | none => exact aw_none
  | some k => exact h k rfl
theorem aw_getQ {idx k ci j : Nat} {fs : List AV} {x : Option Nat} {f : Option Nat → Option (ρ × ST)} (hF : FieldOK y.cls idx ci j) (hO : ObjAt wl σ k ci fs) (hv : fs[j]? = some (.inr x)) (hd : decode cc pc = .ok (.getfield idx, 3)) (kk : ∀ v, AW wl y cc nL ret rm em (f v) (pc + 3) L (.inr v :: st) σ) : AW wl y cc nL ret rm em (bindv x f) pc L (.inr (some k) :: st) σ := aw_get hF hO hv hd (kk x)
end AWE
end
section
-- printed by gen2.py: methods as functions over stores, tied to their bytecode
abbrev rmX5_within : Room := { frames := 0, cells := 0, slots := 0, locals := 0 }
def fX5_within (a0 : Int32) (a1 : Int32) (a2 : Int32) (σ : ST) : Option (Int32 × ST) :=
  if a0 < a1 then (some (0, σ)) else (if a2 < a0 then (some (0, σ)) else (some (1, σ)))
set_option maxRecDepth 10000 in
theorem xX5_within (a0 : Int32) (a1 : Int32) (a2 : Int32) (σ : ST) : MS wlM yX5_within cX5_within 3 (some .boolean) rmX5_within emI [.inl a0, .inl a1, .inl a2] σ (fX5_within a0 a1 a2 σ) := by
  refine MS.of (by decide +kernel) (Nat.le_of_ble_eq_true rfl) ?_
  show AW wlM yX5_within cX5_within 3 (some .boolean) rmX5_within emI (fX5_within a0 a1 a2 σ) 0 [some (.inl a0), some (.inl a1), some (.inl a2)] [] σ
  unfold fX5_within
  refine aw_iload_n (pc := 0) dX5_within_0 rfl rfl ?_
  refine aw_iload_n (pc := 1) dX5_within_1 rfl rfl ?_
  refine aw_icmp_lt (pc := 2) (tgt := 14) dX5_within_2 (by decide) (fun _ => ?_) (fun _ => ?_)
  · refine aw_iconst (pc := 14) (v := 0) dX5_within_14 (by decide) ?_
    exact aw_ret_i (pc := 15) rfl rfl rfl dX5_within_15
  refine aw_iload_n (pc := 5) dX5_within_5 rfl rfl ?_
  refine aw_iload_n (pc := 6) dX5_within_6 rfl rfl ?_
  refine aw_icmp_gt (pc := 7) (tgt := 14) dX5_within_7 (by decide) (fun _ => ?_) (fun _ => ?_)
  · refine aw_iconst (pc := 14) (v := 0) dX5_within_14 (by decide) ?_
    exact aw_ret_i (pc := 15) rfl rfl rfl dX5_within_15
  refine aw_iconst (pc := 10) (v := 1) dX5_within_10 (by decide) ?_
  refine aw_goto (pc := 11) (tgt := 15) dX5_within_11 (by decide) ?_
  exact aw_ret_i (pc := 15) rfl rfl rfl dX5_within_15
abbrev rmX5_knot : Room := { frames := 1, cells := 0, slots := 0, locals := 22 }
def fX5_knot (a1 : Int32) (a2 : Int32) (σ : ST) : Option (Int32 × ST) :=
  cb (fX5_within a1 0 99 σ) (fun r1 σ2 => if r1 = 0 then (some ((-1), σ2)) else (cb (fX5_within a2 0 99 σ2) (fun r3 σ4 => if r3 = 0 then (some ((-1), σ4)) else (if (σ4.1 0 2) = 16 then (some ((-2), σ4)) else (if ib (σ4.1 0 2) 16 = true then bindv (stI σ4 1 (σ4.1 0 2).toNatClampNeg a1) (fun σ5 => if ib (σ5.1 0 2) 16 = true then bindv (stI σ5 2 (σ5.1 0 2).toNatClampNeg a2) (fun σ6 => bindv (stI σ6 0 2 ((σ6.1 0 2) + 1)) (fun σ7 => some (((σ7.1 0 2) - 1), σ7))) else none) else none)))))
set_option maxRecDepth 10000 in
theorem xX5_knot (a1 : Int32) (a2 : Int32) (σ : ST) : MS wlM yX5_knot cX5_knot 3 (some .int) rmX5_knot emI [.inr (some 0), .inl a1, .inl a2] σ (fX5_knot a1 a2 σ) := by
  refine MS.of (by decide +kernel) (Nat.le_of_ble_eq_true rfl) ?_
  show AW wlM yX5_knot cX5_knot 3 (some .int) rmX5_knot emI (fX5_knot a1 a2 σ) 0 [some (.inr (some 0)), some (.inl a1), some (.inl a2)] [] σ
  unfold fX5_knot
  refine aw_iload_n (pc := 0) dX5_knot_0 rfl rfl ?_
  refine aw_iconst (pc := 1) (v := 0) dX5_knot_1 (by decide) ?_
  refine aw_bipush (pc := 2) (v := 99) dX5_knot_2 (by decide) ?_
  refine aw_cSI (pc := 4) (st := []) (xX5_within a1 0 99 σ) ckX5_87 ⟨rfl, rfl, by decide, by decide⟩ (Nat.le_of_ble_eq_true rfl) dX5_knot_4 rfl (fun r1 σ2 => ?_)
  refine aw_if_eq (pc := 7) (tgt := 20) dX5_knot_7 (by decide) (fun _ => ?_) (fun _ => ?_)
  · refine aw_iconst (pc := 20) (v := (-1)) dX5_knot_20 (by decide) ?_
    exact aw_ret_i (pc := 21) rfl rfl rfl dX5_knot_21
  refine aw_iload_n (pc := 10) dX5_knot_10 rfl rfl ?_
  refine aw_iconst (pc := 11) (v := 0) dX5_knot_11 (by decide) ?_
  refine aw_bipush (pc := 12) (v := 99) dX5_knot_12 (by decide) ?_
  refine aw_cSI (pc := 14) (st := []) (xX5_within a2 0 99 σ2) ckX5_87 ⟨rfl, rfl, by decide, by decide⟩ (Nat.le_of_ble_eq_true rfl) dX5_knot_14 rfl (fun r3 σ4 => ?_)
  refine aw_if_ne (pc := 17) (tgt := 22) dX5_knot_17 (by decide) (fun _ => ?_) (fun _ => ?_)
  · refine aw_iconst (pc := 20) (v := (-1)) dX5_knot_20 (by decide) ?_
    exact aw_ret_i (pc := 21) rfl rfl rfl dX5_knot_21
  refine aw_aload_n (pc := 22) dX5_knot_22 rfl rfl ?_
  refine aw_get (pc := 23) (v := .inl (σ4.1 0 2)) foX5_91 (atM0 _) rfl dX5_knot_23 ?_
  refine aw_bipush (pc := 26) (v := 16) dX5_knot_26 (by decide) ?_
  refine aw_icmp_ne (pc := 28) (tgt := 34) dX5_knot_28 (by decide) (fun _ => ?_) (fun _ => ?_)
  · refine aw_bipush (pc := 31) (v := (-2)) dX5_knot_31 (by decide) ?_
    exact aw_ret_i (pc := 33) rfl rfl rfl dX5_knot_33
  refine aw_aload_n (pc := 34) dX5_knot_34 rfl rfl ?_
  refine aw_get (pc := 35) (v := .inr (some 1)) foX5_9 (atM0 _) rfl dX5_knot_35 ?_
  refine aw_aload_n (pc := 38) dX5_knot_38 rfl rfl ?_
  refine aw_get (pc := 39) (v := .inl (σ4.1 0 2)) foX5_91 (atM0 _) rfl dX5_knot_39 ?_
  refine aw_iload_n (pc := 42) dX5_knot_42 rfl rfl ?_
  refine aw_iastB (pc := 43) (atM1 _) (stM1 _ _ _) dX5_knot_43 (fun σ5 => ?_)
  refine aw_aload_n (pc := 44) dX5_knot_44 rfl rfl ?_
  refine aw_get (pc := 45) (v := .inr (some 2)) foX5_13 (atM0 _) rfl dX5_knot_45 ?_
  refine aw_aload_n (pc := 48) dX5_knot_48 rfl rfl ?_
  refine aw_get (pc := 49) (v := .inl (σ5.1 0 2)) foX5_91 (atM0 _) rfl dX5_knot_49 ?_
  refine aw_iload_n (pc := 52) dX5_knot_52 rfl rfl ?_
  refine aw_iastB (pc := 53) (atM2 _) (stM2 _ _ _) dX5_knot_53 (fun σ6 => ?_)
  refine aw_aload_n (pc := 54) dX5_knot_54 rfl rfl ?_
  refine aw_dup (pc := 55) dX5_knot_55 ?_
  refine aw_get (pc := 56) (v := .inl (σ6.1 0 2)) foX5_91 (atM0 _) rfl dX5_knot_56 ?_
  refine aw_iconst (pc := 59) (v := 1) dX5_knot_59 (by decide) ?_
  refine aw_iadd (pc := 60) dX5_knot_60 ?_
  refine aw_putI (pc := 61) fwX5_91 (atM0 _) (Nat.le_of_ble_eq_true rfl) (stM0_2 _ _) dX5_knot_61 (fun σ7 => ?_)
  refine aw_aload_n (pc := 64) dX5_knot_64 rfl rfl ?_
  refine aw_get (pc := 65) (v := .inl (σ7.1 0 2)) foX5_91 (atM0 _) rfl dX5_knot_65 ?_
  refine aw_iconst (pc := 68) (v := 1) dX5_knot_68 (by decide) ?_
  refine aw_isub (pc := 69) dX5_knot_69 ?_
  exact aw_ret_i (pc := 70) rfl rfl rfl dX5_knot_70
abbrev rmX5_isKnot : Room := { frames := 0, cells := 0, slots := 0, locals := 0 }
def fX5_isKnot (a1 : Int32) (σ : ST) : Option (Int32 × ST) :=
  if a1 < 0 then (some (0, σ)) else (if (σ.1 0 2) ≤ a1 then (some (0, σ)) else (some (1, σ)))
set_option maxRecDepth 10000 in
theorem xX5_isKnot (a1 : Int32) (σ : ST) : MS wlM yX5_isKnot cX5_isKnot 2 (some .boolean) rmX5_isKnot emI [.inr (some 0), .inl a1] σ (fX5_isKnot a1 σ) := by
  refine MS.of (by decide +kernel) (Nat.le_of_ble_eq_true rfl) ?_
  show AW wlM yX5_isKnot cX5_isKnot 2 (some .boolean) rmX5_isKnot emI (fX5_isKnot a1 σ) 0 [some (.inr (some 0)), some (.inl a1)] [] σ
  unfold fX5_isKnot
  refine aw_iload_n (pc := 0) dX5_isKnot_0 rfl rfl ?_
  refine aw_if_lt (pc := 1) (tgt := 16) dX5_isKnot_1 (by decide) (fun _ => ?_) (fun _ => ?_)
  · refine aw_iconst (pc := 16) (v := 0) dX5_isKnot_16 (by decide) ?_
    exact aw_ret_i (pc := 17) rfl rfl rfl dX5_isKnot_17
  refine aw_iload_n (pc := 4) dX5_isKnot_4 rfl rfl ?_
  refine aw_aload_n (pc := 5) dX5_isKnot_5 rfl rfl ?_
  refine aw_get (pc := 6) (v := .inl (σ.1 0 2)) foX5_91 (atM0 _) rfl dX5_isKnot_6 ?_
  refine aw_icmp_ge (pc := 9) (tgt := 16) dX5_isKnot_9 (by decide) (fun _ => ?_) (fun _ => ?_)
  · refine aw_iconst (pc := 16) (v := 0) dX5_isKnot_16 (by decide) ?_
    exact aw_ret_i (pc := 17) rfl rfl rfl dX5_isKnot_17
  refine aw_iconst (pc := 12) (v := 1) dX5_isKnot_12 (by decide) ?_
  refine aw_goto (pc := 13) (tgt := 17) dX5_isKnot_13 (by decide) ?_
  exact aw_ret_i (pc := 17) rfl rfl rfl dX5_isKnot_17
abbrev rmX5_isRoad : Room := { frames := 0, cells := 0, slots := 0, locals := 0 }
def fX5_isRoad (a1 : Int32) (σ : ST) : Option (Int32 × ST) :=
  if a1 < 0 then (some (0, σ)) else (if (σ.1 0 8) ≤ a1 then (some (0, σ)) else (some (1, σ)))
set_option maxRecDepth 10000 in
theorem xX5_isRoad (a1 : Int32) (σ : ST) : MS wlM yX5_isRoad cX5_isRoad 2 (some .boolean) rmX5_isRoad emI [.inr (some 0), .inl a1] σ (fX5_isRoad a1 σ) := by
  refine MS.of (by decide +kernel) (Nat.le_of_ble_eq_true rfl) ?_
  show AW wlM yX5_isRoad cX5_isRoad 2 (some .boolean) rmX5_isRoad emI (fX5_isRoad a1 σ) 0 [some (.inr (some 0)), some (.inl a1)] [] σ
  unfold fX5_isRoad
  refine aw_iload_n (pc := 0) dX5_isRoad_0 rfl rfl ?_
  refine aw_if_lt (pc := 1) (tgt := 16) dX5_isRoad_1 (by decide) (fun _ => ?_) (fun _ => ?_)
  · refine aw_iconst (pc := 16) (v := 0) dX5_isRoad_16 (by decide) ?_
    exact aw_ret_i (pc := 17) rfl rfl rfl dX5_isRoad_17
  refine aw_iload_n (pc := 4) dX5_isRoad_4 rfl rfl ?_
  refine aw_aload_n (pc := 5) dX5_isRoad_5 rfl rfl ?_
  refine aw_get (pc := 6) (v := .inl (σ.1 0 8)) foX5_94 (atM0 _) rfl dX5_isRoad_6 ?_
  refine aw_icmp_ge (pc := 9) (tgt := 16) dX5_isRoad_9 (by decide) (fun _ => ?_) (fun _ => ?_)
  · refine aw_iconst (pc := 16) (v := 0) dX5_isRoad_16 (by decide) ?_
    exact aw_ret_i (pc := 17) rfl rfl rfl dX5_isRoad_17
  refine aw_iconst (pc := 12) (v := 1) dX5_isRoad_12 (by decide) ?_
  refine aw_goto (pc := 13) (tgt := 17) dX5_isRoad_13 (by decide) ?_
  exact aw_ret_i (pc := 17) rfl rfl rfl dX5_isRoad_17
abbrev rmX5_isPoint : Room := { frames := 0, cells := 0, slots := 0, locals := 0 }
def fX5_isPoint (a1 : Int32) (σ : ST) : Option (Int32 × ST) :=
  if a1 < 0 then (some (0, σ)) else (if (5 * (σ.1 0 8)) ≤ a1 then (some (0, σ)) else (some (1, σ)))
set_option maxRecDepth 10000 in
theorem xX5_isPoint (a1 : Int32) (σ : ST) : MS wlM yX5_isPoint cX5_isPoint 2 (some .boolean) rmX5_isPoint emI [.inr (some 0), .inl a1] σ (fX5_isPoint a1 σ) := by
  refine MS.of (by decide +kernel) (Nat.le_of_ble_eq_true rfl) ?_
  show AW wlM yX5_isPoint cX5_isPoint 2 (some .boolean) rmX5_isPoint emI (fX5_isPoint a1 σ) 0 [some (.inr (some 0)), some (.inl a1)] [] σ
  unfold fX5_isPoint
  refine aw_iload_n (pc := 0) dX5_isPoint_0 rfl rfl ?_
  refine aw_if_lt (pc := 1) (tgt := 18) dX5_isPoint_1 (by decide) (fun _ => ?_) (fun _ => ?_)
  · refine aw_iconst (pc := 18) (v := 0) dX5_isPoint_18 (by decide) ?_
    exact aw_ret_i (pc := 19) rfl rfl rfl dX5_isPoint_19
  refine aw_iload_n (pc := 4) dX5_isPoint_4 rfl rfl ?_
  refine aw_iconst (pc := 5) (v := 5) dX5_isPoint_5 (by decide) ?_
  refine aw_aload_n (pc := 6) dX5_isPoint_6 rfl rfl ?_
  refine aw_get (pc := 7) (v := .inl (σ.1 0 8)) foX5_94 (atM0 _) rfl dX5_isPoint_7 ?_
  refine aw_imul (pc := 10) dX5_isPoint_10 ?_
  refine aw_icmp_ge (pc := 11) (tgt := 18) dX5_isPoint_11 (by decide) (fun _ => ?_) (fun _ => ?_)
  · refine aw_iconst (pc := 18) (v := 0) dX5_isPoint_18 (by decide) ?_
    exact aw_ret_i (pc := 19) rfl rfl rfl dX5_isPoint_19
  refine aw_iconst (pc := 14) (v := 1) dX5_isPoint_14 (by decide) ?_
  refine aw_goto (pc := 15) (tgt := 19) dX5_isPoint_15 (by decide) ?_
  exact aw_ret_i (pc := 19) rfl rfl rfl dX5_isPoint_19
abbrev rmX5_road : Room := { frames := 1, cells := 0, slots := 0, locals := 22 }
def fX5_road_J83 (l1 : Int32) (l2 : Int32) (l3 : Int32) (l4 : Int32) (σ : ST) : Option (Int32 × ST) :=
  if (σ.1 0 8) = 30 then (some ((-2), σ)) else (if ib (σ.1 0 8) 30 = true then bindv (stI σ 3 (σ.1 0 8).toNatClampNeg (l1 / 100)) (fun σ11 => if ib (σ11.1 0 8) 30 = true then bindv (stI σ11 4 (σ11.1 0 8).toNatClampNeg (l1 - l1 / 100 * 100)) (fun σ12 => if ib (σ12.1 0 8) 30 = true then bindv (stI σ12 5 (σ12.1 0 8).toNatClampNeg l2) (fun σ13 => if ib (σ13.1 0 8) 30 = true then bindv (stI σ13 6 (σ13.1 0 8).toNatClampNeg l3) (fun σ14 => if ib (σ14.1 0 8) 30 = true then bindv (stI σ14 7 (σ14.1 0 8).toNatClampNeg l4) (fun σ15 => bindv (stI σ15 0 8 ((σ15.1 0 8) + 1)) (fun σ16 => bindv (stI σ16 0 20 0) (fun σ17 => some (((σ17.1 0 8) - 1), σ17)))) else none) else none) else none) else none) else none)
set_option maxRecDepth 10000 in
theorem xX5_road_J83 (l1 : Int32) (l2 : Int32) (l3 : Int32) (l4 : Int32) (σ : ST) : AW wlM yX5_road cX5_road 5 (some .int) rmX5_road emI (fX5_road_J83 l1 l2 l3 l4 σ) 83 [some (.inr (some 0)), some (.inl l1), some (.inl l2), some (.inl l3), some (.inl l4)] [] σ := by
  unfold fX5_road_J83
  refine aw_aload_n (pc := 83) dX5_road_83 rfl rfl ?_
  refine aw_get (pc := 84) (v := .inl (σ.1 0 8)) foX5_94 (atM0 _) rfl dX5_road_84 ?_
  refine aw_bipush (pc := 87) (v := 30) dX5_road_87 (by decide) ?_
  refine aw_icmp_ne (pc := 89) (tgt := 95) dX5_road_89 (by decide) (fun _ => ?_) (fun _ => ?_)
  · refine aw_bipush (pc := 92) (v := (-2)) dX5_road_92 (by decide) ?_
    exact aw_ret_i (pc := 94) rfl rfl rfl dX5_road_94
  refine aw_aload_n (pc := 95) dX5_road_95 rfl rfl ?_
  refine aw_get (pc := 96) (v := .inr (some 3)) foX5_16 (atM0 _) rfl dX5_road_96 ?_
  refine aw_aload_n (pc := 99) dX5_road_99 rfl rfl ?_
  refine aw_get (pc := 100) (v := .inl (σ.1 0 8)) foX5_94 (atM0 _) rfl dX5_road_100 ?_
  refine aw_iload_n (pc := 103) dX5_road_103 rfl rfl ?_
  refine aw_bipush (pc := 104) (v := 100) dX5_road_104 (by decide) ?_
  refine aw_idiv (pc := 106) dX5_road_106 (by decide) ?_
  refine aw_iastB (pc := 107) (atM3 _) (stM3 _ _ _) dX5_road_107 (fun σ11 => ?_)
  refine aw_aload_n (pc := 108) dX5_road_108 rfl rfl ?_
  refine aw_get (pc := 109) (v := .inr (some 4)) foX5_19 (atM0 _) rfl dX5_road_109 ?_
  refine aw_aload_n (pc := 112) dX5_road_112 rfl rfl ?_
  refine aw_get (pc := 113) (v := .inl (σ11.1 0 8)) foX5_94 (atM0 _) rfl dX5_road_113 ?_
  refine aw_iload_n (pc := 116) dX5_road_116 rfl rfl ?_
  refine aw_bipush (pc := 117) (v := 100) dX5_road_117 (by decide) ?_
  refine aw_irem (pc := 119) dX5_road_119 (by decide) ?_
  refine aw_iastB (pc := 120) (atM4 _) (stM4 _ _ _) dX5_road_120 (fun σ12 => ?_)
  refine aw_aload_n (pc := 121) dX5_road_121 rfl rfl ?_
  refine aw_get (pc := 122) (v := .inr (some 5)) foX5_22 (atM0 _) rfl dX5_road_122 ?_
  refine aw_aload_n (pc := 125) dX5_road_125 rfl rfl ?_
  refine aw_get (pc := 126) (v := .inl (σ12.1 0 8)) foX5_94 (atM0 _) rfl dX5_road_126 ?_
  refine aw_iload_n (pc := 129) dX5_road_129 rfl rfl ?_
  refine aw_iastB (pc := 130) (atM5 _) (stM5 _ _ _) dX5_road_130 (fun σ13 => ?_)
  refine aw_aload_n (pc := 131) dX5_road_131 rfl rfl ?_
  refine aw_get (pc := 132) (v := .inr (some 6)) foX5_25 (atM0 _) rfl dX5_road_132 ?_
  refine aw_aload_n (pc := 135) dX5_road_135 rfl rfl ?_
  refine aw_get (pc := 136) (v := .inl (σ13.1 0 8)) foX5_94 (atM0 _) rfl dX5_road_136 ?_
  refine aw_iload_n (pc := 139) dX5_road_139 rfl rfl ?_
  refine aw_iastB (pc := 140) (atM6 _) (stM6 _ _ _) dX5_road_140 (fun σ14 => ?_)
  refine aw_aload_n (pc := 141) dX5_road_141 rfl rfl ?_
  refine aw_get (pc := 142) (v := .inr (some 7)) foX5_28 (atM0 _) rfl dX5_road_142 ?_
  refine aw_aload_n (pc := 145) dX5_road_145 rfl rfl ?_
  refine aw_get (pc := 146) (v := .inl (σ14.1 0 8)) foX5_94 (atM0 _) rfl dX5_road_146 ?_
  refine aw_iload (pc := 149) dX5_road_149 rfl ?_
  refine aw_iastB (pc := 151) (atM7 _) (stM7 _ _ _) dX5_road_151 (fun σ15 => ?_)
  refine aw_aload_n (pc := 152) dX5_road_152 rfl rfl ?_
  refine aw_dup (pc := 153) dX5_road_153 ?_
  refine aw_get (pc := 154) (v := .inl (σ15.1 0 8)) foX5_94 (atM0 _) rfl dX5_road_154 ?_
  refine aw_iconst (pc := 157) (v := 1) dX5_road_157 (by decide) ?_
  refine aw_iadd (pc := 158) dX5_road_158 ?_
  refine aw_putI (pc := 159) fwX5_94 (atM0 _) (Nat.le_of_ble_eq_true rfl) (stM0_8 _ _) dX5_road_159 (fun σ16 => ?_)
  refine aw_aload_n (pc := 162) dX5_road_162 rfl rfl ?_
  refine aw_iconst (pc := 163) (v := 0) dX5_road_163 (by decide) ?_
  refine aw_putZ (pc := 164) fwX5_101 (atM0 _) (Nat.le_of_ble_eq_true rfl) (by decide) (stM0_20 _ _) dX5_road_164 (fun σ17 => ?_)
  refine aw_aload_n (pc := 167) dX5_road_167 rfl rfl ?_
  refine aw_get (pc := 168) (v := .inl (σ17.1 0 8)) foX5_94 (atM0 _) rfl dX5_road_168 ?_
  refine aw_iconst (pc := 171) (v := 1) dX5_road_171 (by decide) ?_
  refine aw_isub (pc := 172) dX5_road_172 ?_
  exact aw_ret_i (pc := 173) rfl rfl rfl dX5_road_173
def fX5_road (a1 : Int32) (a2 : Int32) (a3 : Int32) (a4 : Int32) (σ : ST) : Option (Int32 × ST) :=
  if a1 < 0 then (some ((-1), σ)) else (cb (fX5_isKnot (a1 / 100) σ) (fun r1 σ2 => if r1 = 0 then (some ((-1), σ2)) else (cb (fX5_isKnot (a1 - a1 / 100 * 100) σ2) (fun r3 σ4 => if r3 = 0 then (some ((-1), σ4)) else (if (a1 / 100) = (a1 - a1 / 100 * 100) then (some ((-1), σ4)) else (cb (fX5_within a2 1 200 σ4) (fun r5 σ6 => if r5 = 0 then (some ((-1), σ6)) else (cb (fX5_within a3 0 3 σ6) (fun r7 σ8 => if r7 = 0 then (some ((-1), σ8)) else (if a3 = 3 then (cb (fX5_within a4 1 99 σ8) (fun r9 σ10 => if r9 = 0 then (some ((-1), σ10)) else (fX5_road_J83 a1 a2 a3 a4 σ10))) else (if a4 = 0 then (fX5_road_J83 a1 a2 a3 a4 σ8) else (some ((-1), σ8)))))))))))))
set_option maxRecDepth 10000 in
theorem xX5_road (a1 : Int32) (a2 : Int32) (a3 : Int32) (a4 : Int32) (σ : ST) : MS wlM yX5_road cX5_road 5 (some .int) rmX5_road emI [.inr (some 0), .inl a1, .inl a2, .inl a3, .inl a4] σ (fX5_road a1 a2 a3 a4 σ) := by
  refine MS.of (by decide +kernel) (Nat.le_of_ble_eq_true rfl) ?_
  show AW wlM yX5_road cX5_road 5 (some .int) rmX5_road emI (fX5_road a1 a2 a3 a4 σ) 0 [some (.inr (some 0)), some (.inl a1), some (.inl a2), some (.inl a3), some (.inl a4)] [] σ
  unfold fX5_road
  refine aw_iload_n (pc := 0) dX5_road_0 rfl rfl ?_
  refine aw_if_lt (pc := 1) (tgt := 81) dX5_road_1 (by decide) (fun _ => ?_) (fun _ => ?_)
  · refine aw_iconst (pc := 81) (v := (-1)) dX5_road_81 (by decide) ?_
    exact aw_ret_i (pc := 82) rfl rfl rfl dX5_road_82
  refine aw_aload_n (pc := 4) dX5_road_4 rfl rfl ?_
  refine aw_iload_n (pc := 5) dX5_road_5 rfl rfl ?_
  refine aw_bipush (pc := 6) (v := 100) dX5_road_6 (by decide) ?_
  refine aw_idiv (pc := 8) dX5_road_8 (by decide) ?_
  refine aw_cVI (pc := 9) (st := []) (xX5_isKnot (a1 / 100) σ) (atM0 _) rfl ckX5_97 ⟨rfl, rfl, by decide, by decide⟩ (Nat.le_of_ble_eq_true rfl) dX5_road_9 rfl (fun r1 σ2 => ?_)
  refine aw_if_eq (pc := 12) (tgt := 81) dX5_road_12 (by decide) (fun _ => ?_) (fun _ => ?_)
  · refine aw_iconst (pc := 81) (v := (-1)) dX5_road_81 (by decide) ?_
    exact aw_ret_i (pc := 82) rfl rfl rfl dX5_road_82
  refine aw_aload_n (pc := 15) dX5_road_15 rfl rfl ?_
  refine aw_iload_n (pc := 16) dX5_road_16 rfl rfl ?_
  refine aw_bipush (pc := 17) (v := 100) dX5_road_17 (by decide) ?_
  refine aw_irem (pc := 19) dX5_road_19 (by decide) ?_
  refine aw_cVI (pc := 20) (st := []) (xX5_isKnot (a1 - a1 / 100 * 100) σ2) (atM0 _) rfl ckX5_97 ⟨rfl, rfl, by decide, by decide⟩ (Nat.le_of_ble_eq_true rfl) dX5_road_20 rfl (fun r3 σ4 => ?_)
  refine aw_if_eq (pc := 23) (tgt := 81) dX5_road_23 (by decide) (fun _ => ?_) (fun _ => ?_)
  · refine aw_iconst (pc := 81) (v := (-1)) dX5_road_81 (by decide) ?_
    exact aw_ret_i (pc := 82) rfl rfl rfl dX5_road_82
  refine aw_iload_n (pc := 26) dX5_road_26 rfl rfl ?_
  refine aw_bipush (pc := 27) (v := 100) dX5_road_27 (by decide) ?_
  refine aw_idiv (pc := 29) dX5_road_29 (by decide) ?_
  refine aw_iload_n (pc := 30) dX5_road_30 rfl rfl ?_
  refine aw_bipush (pc := 31) (v := 100) dX5_road_31 (by decide) ?_
  refine aw_irem (pc := 33) dX5_road_33 (by decide) ?_
  refine aw_icmp_eq (pc := 34) (tgt := 81) dX5_road_34 (by decide) (fun _ => ?_) (fun _ => ?_)
  · refine aw_iconst (pc := 81) (v := (-1)) dX5_road_81 (by decide) ?_
    exact aw_ret_i (pc := 82) rfl rfl rfl dX5_road_82
  refine aw_iload_n (pc := 37) dX5_road_37 rfl rfl ?_
  refine aw_iconst (pc := 38) (v := 1) dX5_road_38 (by decide) ?_
  refine aw_sipush (pc := 39) (v := 200) dX5_road_39 (by decide) ?_
  refine aw_cSI (pc := 42) (st := []) (xX5_within a2 1 200 σ4) ckX5_87 ⟨rfl, rfl, by decide, by decide⟩ (Nat.le_of_ble_eq_true rfl) dX5_road_42 rfl (fun r5 σ6 => ?_)
  refine aw_if_eq (pc := 45) (tgt := 81) dX5_road_45 (by decide) (fun _ => ?_) (fun _ => ?_)
  · refine aw_iconst (pc := 81) (v := (-1)) dX5_road_81 (by decide) ?_
    exact aw_ret_i (pc := 82) rfl rfl rfl dX5_road_82
  refine aw_iload_n (pc := 48) dX5_road_48 rfl rfl ?_
  refine aw_iconst (pc := 49) (v := 0) dX5_road_49 (by decide) ?_
  refine aw_iconst (pc := 50) (v := 3) dX5_road_50 (by decide) ?_
  refine aw_cSI (pc := 51) (st := []) (xX5_within a3 0 3 σ6) ckX5_87 ⟨rfl, rfl, by decide, by decide⟩ (Nat.le_of_ble_eq_true rfl) dX5_road_51 rfl (fun r7 σ8 => ?_)
  refine aw_if_eq (pc := 54) (tgt := 81) dX5_road_54 (by decide) (fun _ => ?_) (fun _ => ?_)
  · refine aw_iconst (pc := 81) (v := (-1)) dX5_road_81 (by decide) ?_
    exact aw_ret_i (pc := 82) rfl rfl rfl dX5_road_82
  refine aw_iload_n (pc := 57) dX5_road_57 rfl rfl ?_
  refine aw_iconst (pc := 58) (v := 3) dX5_road_58 (by decide) ?_
  refine aw_icmp_ne (pc := 59) (tgt := 76) dX5_road_59 (by decide) (fun _ => ?_) (fun _ => ?_)
  · refine aw_iload (pc := 62) dX5_road_62 rfl ?_
    refine aw_iconst (pc := 64) (v := 1) dX5_road_64 (by decide) ?_
    refine aw_bipush (pc := 65) (v := 99) dX5_road_65 (by decide) ?_
    refine aw_cSI (pc := 67) (st := []) (xX5_within a4 1 99 σ8) ckX5_87 ⟨rfl, rfl, by decide, by decide⟩ (Nat.le_of_ble_eq_true rfl) dX5_road_67 rfl (fun r9 σ10 => ?_)
    refine aw_if_eq (pc := 70) (tgt := 81) dX5_road_70 (by decide) (fun _ => ?_) (fun _ => ?_)
    · refine aw_iconst (pc := 81) (v := (-1)) dX5_road_81 (by decide) ?_
      exact aw_ret_i (pc := 82) rfl rfl rfl dX5_road_82
    refine aw_goto (pc := 73) (tgt := 83) dX5_road_73 (by decide) ?_
    exact aw_wk (wk_same (wk_same (wk_same (wk_same (wk_same wk_nil))))) (xX5_road_J83 a1 a2 a3 a4 σ10)
  refine aw_iload (pc := 76) dX5_road_76 rfl ?_
  refine aw_if_eq (pc := 78) (tgt := 83) dX5_road_78 (by decide) (fun _ => ?_) (fun _ => ?_)
  · exact aw_wk (wk_same (wk_same (wk_same (wk_same (wk_same wk_nil))))) (xX5_road_J83 a1 a2 a3 a4 σ8)
  refine aw_iconst (pc := 81) (v := (-1)) dX5_road_81 (by decide) ?_
  exact aw_ret_i (pc := 82) rfl rfl rfl dX5_road_82
abbrev rmX5_bar : Room := { frames := 1, cells := 0, slots := 0, locals := 22 }
def fX5_bar_J130 (l4 : Int32) (s0 : Int32) (s1 : Int32) (σ : ST) : Option (Int32 × ST) :=
  if ib s1 900 = true then bindv (stI σ 8 s1.toNatClampNeg (vp_nar .boolean s0)) (fun σ7 => bindv (stI σ7 0 20 0) (fun σ8 => some (l4, σ8))) else none
set_option maxRecDepth 10000 in
theorem xX5_bar_J130 (l4 : Int32) (s0 : Int32) (s1 : Int32) (σ : ST) : AW wlM yX5_bar cX5_bar 5 (some .int) rmX5_bar emI (fX5_bar_J130 l4 s0 s1 σ) 130 [some (.inr (some 0)), none, none, none, some (.inl l4)] [.inl s0, .inl s1, .inr (some 8)] σ := by
  unfold fX5_bar_J130
  refine aw_bastB (pc := 130) (atM8 _) (stM8 _ _ _) dX5_bar_130 (fun σ7 => ?_)
  refine aw_aload_n (pc := 131) dX5_bar_131 rfl rfl ?_
  refine aw_iconst (pc := 132) (v := 0) dX5_bar_132 (by decide) ?_
  refine aw_putZ (pc := 133) fwX5_101 (atM0 _) (Nat.le_of_ble_eq_true rfl) (by decide) (stM0_20 _ _) dX5_bar_133 (fun σ8 => ?_)
  refine aw_iload (pc := 136) dX5_bar_136 rfl ?_
  exact aw_ret_i (pc := 138) rfl rfl rfl dX5_bar_138
def fX5_bar_J108 (l1 : Int32) (l2 : Int32) (l3 : Int32) (s0 : Int32) (σ : ST) : Option (Int32 × ST) :=
  if l3 = 1 then (fX5_bar_J130 s0 1 ((30 * l1) + l2) σ) else (fX5_bar_J130 s0 0 ((30 * l1) + l2) σ)
set_option maxRecDepth 10000 in
theorem xX5_bar_J108 (l1 : Int32) (l2 : Int32) (l3 : Int32) (s0 : Int32) (σ : ST) : AW wlM yX5_bar cX5_bar 5 (some .int) rmX5_bar emI (fX5_bar_J108 l1 l2 l3 s0 σ) 108 [some (.inr (some 0)), some (.inl l1), some (.inl l2), some (.inl l3), none] [.inl s0] σ := by
  unfold fX5_bar_J108
  refine aw_st (pc := 108) (L' := [some (.inr (some 0)), some (.inl l1), some (.inl l2), some (.inl l3), some (.inl s0)]) dX5_bar_108 (by decide) rfl ?_
  refine aw_aload_n (pc := 110) dX5_bar_110 rfl rfl ?_
  refine aw_get (pc := 111) (v := .inr (some 8)) foX5_31 (atM0 _) rfl dX5_bar_111 ?_
  refine aw_bipush (pc := 114) (v := 30) dX5_bar_114 (by decide) ?_
  refine aw_iload_n (pc := 116) dX5_bar_116 rfl rfl ?_
  refine aw_imul (pc := 117) dX5_bar_117 ?_
  refine aw_iload_n (pc := 118) dX5_bar_118 rfl rfl ?_
  refine aw_iadd (pc := 119) dX5_bar_119 ?_
  refine aw_iload_n (pc := 120) dX5_bar_120 rfl rfl ?_
  refine aw_iconst (pc := 121) (v := 1) dX5_bar_121 (by decide) ?_
  refine aw_icmp_ne (pc := 122) (tgt := 129) dX5_bar_122 (by decide) (fun _ => ?_) (fun _ => ?_)
  · refine aw_iconst (pc := 125) (v := 1) dX5_bar_125 (by decide) ?_
    refine aw_goto (pc := 126) (tgt := 130) dX5_bar_126 (by decide) ?_
    exact aw_wk (wk_same (wk_none (wk_none (wk_none (wk_same wk_nil))))) (xX5_bar_J130 s0 1 ((30 * l1) + l2) σ)
  refine aw_iconst (pc := 129) (v := 0) dX5_bar_129 (by decide) ?_
  exact aw_wk (wk_same (wk_none (wk_none (wk_none (wk_same wk_nil))))) (xX5_bar_J130 s0 0 ((30 * l1) + l2) σ)
def fX5_bar_J89 (l1 : Int32) (l2 : Int32) (l3 : Int32) (σ : ST) : Option (Int32 × ST) :=
  if ib ((30 * l1) + l2) 900 = true then if (σ.1 8 ((30 * l1) + l2).toNatClampNeg) = 0 then (fX5_bar_J108 l1 l2 l3 0 σ) else (fX5_bar_J108 l1 l2 l3 1 σ) else none
set_option maxRecDepth 10000 in
theorem xX5_bar_J89 (l1 : Int32) (l2 : Int32) (l3 : Int32) (σ : ST) : AW wlM yX5_bar cX5_bar 5 (some .int) rmX5_bar emI (fX5_bar_J89 l1 l2 l3 σ) 89 [some (.inr (some 0)), some (.inl l1), some (.inl l2), some (.inl l3), none] [] σ := by
  unfold fX5_bar_J89
  refine aw_aload_n (pc := 89) dX5_bar_89 rfl rfl ?_
  refine aw_get (pc := 90) (v := .inr (some 8)) foX5_31 (atM0 _) rfl dX5_bar_90 ?_
  refine aw_bipush (pc := 93) (v := 30) dX5_bar_93 (by decide) ?_
  refine aw_iload_n (pc := 95) dX5_bar_95 rfl rfl ?_
  refine aw_imul (pc := 96) dX5_bar_96 ?_
  refine aw_iload_n (pc := 97) dX5_bar_97 rfl rfl ?_
  refine aw_iadd (pc := 98) dX5_bar_98 ?_
  refine aw_bald' (pc := 99) (atM8 _) dX5_bar_99 ?_
  refine aw_if_eq (pc := 100) (tgt := 107) dX5_bar_100 (by decide) (fun _ => ?_) (fun _ => ?_)
  · refine aw_iconst (pc := 107) (v := 0) dX5_bar_107 (by decide) ?_
    exact aw_wk (wk_same (wk_same (wk_same (wk_same (wk_none wk_nil))))) (xX5_bar_J108 l1 l2 l3 0 σ)
  refine aw_iconst (pc := 103) (v := 1) dX5_bar_103 (by decide) ?_
  refine aw_goto (pc := 104) (tgt := 108) dX5_bar_104 (by decide) ?_
  exact aw_wk (wk_same (wk_same (wk_same (wk_same (wk_none wk_nil))))) (xX5_bar_J108 l1 l2 l3 1 σ)
def fX5_bar (a1 : Int32) (a2 : Int32) (a3 : Int32) (σ : ST) : Option (Int32 × ST) :=
  cb (fX5_isRoad a1 σ) (fun r1 σ2 => if r1 = 0 then (some ((-1), σ2)) else (cb (fX5_isRoad a2 σ2) (fun r3 σ4 => if r3 = 0 then (some ((-1), σ4)) else (cb (fX5_within a3 0 1 σ4) (fun r5 σ6 => if r5 = 0 then (some ((-1), σ6)) else (if ib a1 30 = true then if ib a2 30 = true then if (σ6.1 3 a1.toNatClampNeg) = (σ6.1 3 a2.toNatClampNeg) then (fX5_bar_J89 a1 a2 a3 σ6) else (if ib a1 30 = true then if ib a2 30 = true then if (σ6.1 3 a1.toNatClampNeg) = (σ6.1 4 a2.toNatClampNeg) then (fX5_bar_J89 a1 a2 a3 σ6) else (if ib a1 30 = true then if ib a2 30 = true then if (σ6.1 4 a1.toNatClampNeg) = (σ6.1 3 a2.toNatClampNeg) then (fX5_bar_J89 a1 a2 a3 σ6) else (if ib a1 30 = true then if ib a2 30 = true then if (σ6.1 4 a1.toNatClampNeg) = (σ6.1 4 a2.toNatClampNeg) then (fX5_bar_J89 a1 a2 a3 σ6) else (some ((-1), σ6)) else none else none) else none else none) else none else none) else none else none))))))
set_option maxRecDepth 10000 in
theorem xX5_bar (a1 : Int32) (a2 : Int32) (a3 : Int32) (σ : ST) : MS wlM yX5_bar cX5_bar 5 (some .int) rmX5_bar emI [.inr (some 0), .inl a1, .inl a2, .inl a3] σ (fX5_bar a1 a2 a3 σ) := by
  refine MS.of (by decide +kernel) (Nat.le_of_ble_eq_true rfl) ?_
  show AW wlM yX5_bar cX5_bar 5 (some .int) rmX5_bar emI (fX5_bar a1 a2 a3 σ) 0 [some (.inr (some 0)), some (.inl a1), some (.inl a2), some (.inl a3), none] [] σ
  unfold fX5_bar
  refine aw_aload_n (pc := 0) dX5_bar_0 rfl rfl ?_
  refine aw_iload_n (pc := 1) dX5_bar_1 rfl rfl ?_
  refine aw_cVI (pc := 2) (st := []) (xX5_isRoad a1 σ) (atM0 _) rfl ckX5_105 ⟨rfl, rfl, by decide, by decide⟩ (Nat.le_of_ble_eq_true rfl) dX5_bar_2 rfl (fun r1 σ2 => ?_)
  refine aw_if_eq (pc := 5) (tgt := 25) dX5_bar_5 (by decide) (fun _ => ?_) (fun _ => ?_)
  · refine aw_iconst (pc := 25) (v := (-1)) dX5_bar_25 (by decide) ?_
    exact aw_ret_i (pc := 26) rfl rfl rfl dX5_bar_26
  refine aw_aload_n (pc := 8) dX5_bar_8 rfl rfl ?_
  refine aw_iload_n (pc := 9) dX5_bar_9 rfl rfl ?_
  refine aw_cVI (pc := 10) (st := []) (xX5_isRoad a2 σ2) (atM0 _) rfl ckX5_105 ⟨rfl, rfl, by decide, by decide⟩ (Nat.le_of_ble_eq_true rfl) dX5_bar_10 rfl (fun r3 σ4 => ?_)
  refine aw_if_eq (pc := 13) (tgt := 25) dX5_bar_13 (by decide) (fun _ => ?_) (fun _ => ?_)
  · refine aw_iconst (pc := 25) (v := (-1)) dX5_bar_25 (by decide) ?_
    exact aw_ret_i (pc := 26) rfl rfl rfl dX5_bar_26
  refine aw_iload_n (pc := 16) dX5_bar_16 rfl rfl ?_
  refine aw_iconst (pc := 17) (v := 0) dX5_bar_17 (by decide) ?_
  refine aw_iconst (pc := 18) (v := 1) dX5_bar_18 (by decide) ?_
  refine aw_cSI (pc := 19) (st := []) (xX5_within a3 0 1 σ4) ckX5_87 ⟨rfl, rfl, by decide, by decide⟩ (Nat.le_of_ble_eq_true rfl) dX5_bar_19 rfl (fun r5 σ6 => ?_)
  refine aw_if_ne (pc := 22) (tgt := 27) dX5_bar_22 (by decide) (fun _ => ?_) (fun _ => ?_)
  · refine aw_iconst (pc := 25) (v := (-1)) dX5_bar_25 (by decide) ?_
    exact aw_ret_i (pc := 26) rfl rfl rfl dX5_bar_26
  refine aw_aload_n (pc := 27) dX5_bar_27 rfl rfl ?_
  refine aw_get (pc := 28) (v := .inr (some 3)) foX5_16 (atM0 _) rfl dX5_bar_28 ?_
  refine aw_iload_n (pc := 31) dX5_bar_31 rfl rfl ?_
  refine aw_iald' (pc := 32) (atM3 _) dX5_bar_32 ?_
  refine aw_aload_n (pc := 33) dX5_bar_33 rfl rfl ?_
  refine aw_get (pc := 34) (v := .inr (some 3)) foX5_16 (atM0 _) rfl dX5_bar_34 ?_
  refine aw_iload_n (pc := 37) dX5_bar_37 rfl rfl ?_
  refine aw_iald' (pc := 38) (atM3 _) dX5_bar_38 ?_
  refine aw_icmp_eq (pc := 39) (tgt := 89) dX5_bar_39 (by decide) (fun _ => ?_) (fun _ => ?_)
  · exact aw_wk (wk_same (wk_same (wk_same (wk_same (wk_none wk_nil))))) (xX5_bar_J89 a1 a2 a3 σ6)
  refine aw_aload_n (pc := 42) dX5_bar_42 rfl rfl ?_
  refine aw_get (pc := 43) (v := .inr (some 3)) foX5_16 (atM0 _) rfl dX5_bar_43 ?_
  refine aw_iload_n (pc := 46) dX5_bar_46 rfl rfl ?_
  refine aw_iald' (pc := 47) (atM3 _) dX5_bar_47 ?_
  refine aw_aload_n (pc := 48) dX5_bar_48 rfl rfl ?_
  refine aw_get (pc := 49) (v := .inr (some 4)) foX5_19 (atM0 _) rfl dX5_bar_49 ?_
  refine aw_iload_n (pc := 52) dX5_bar_52 rfl rfl ?_
  refine aw_iald' (pc := 53) (atM4 _) dX5_bar_53 ?_
  refine aw_icmp_eq (pc := 54) (tgt := 89) dX5_bar_54 (by decide) (fun _ => ?_) (fun _ => ?_)
  · exact aw_wk (wk_same (wk_same (wk_same (wk_same (wk_none wk_nil))))) (xX5_bar_J89 a1 a2 a3 σ6)
  refine aw_aload_n (pc := 57) dX5_bar_57 rfl rfl ?_
  refine aw_get (pc := 58) (v := .inr (some 4)) foX5_19 (atM0 _) rfl dX5_bar_58 ?_
  refine aw_iload_n (pc := 61) dX5_bar_61 rfl rfl ?_
  refine aw_iald' (pc := 62) (atM4 _) dX5_bar_62 ?_
  refine aw_aload_n (pc := 63) dX5_bar_63 rfl rfl ?_
  refine aw_get (pc := 64) (v := .inr (some 3)) foX5_16 (atM0 _) rfl dX5_bar_64 ?_
  refine aw_iload_n (pc := 67) dX5_bar_67 rfl rfl ?_
  refine aw_iald' (pc := 68) (atM3 _) dX5_bar_68 ?_
  refine aw_icmp_eq (pc := 69) (tgt := 89) dX5_bar_69 (by decide) (fun _ => ?_) (fun _ => ?_)
  · exact aw_wk (wk_same (wk_same (wk_same (wk_same (wk_none wk_nil))))) (xX5_bar_J89 a1 a2 a3 σ6)
  refine aw_aload_n (pc := 72) dX5_bar_72 rfl rfl ?_
  refine aw_get (pc := 73) (v := .inr (some 4)) foX5_19 (atM0 _) rfl dX5_bar_73 ?_
  refine aw_iload_n (pc := 76) dX5_bar_76 rfl rfl ?_
  refine aw_iald' (pc := 77) (atM4 _) dX5_bar_77 ?_
  refine aw_aload_n (pc := 78) dX5_bar_78 rfl rfl ?_
  refine aw_get (pc := 79) (v := .inr (some 4)) foX5_19 (atM0 _) rfl dX5_bar_79 ?_
  refine aw_iload_n (pc := 82) dX5_bar_82 rfl rfl ?_
  refine aw_iald' (pc := 83) (atM4 _) dX5_bar_83 ?_
  refine aw_icmp_eq (pc := 84) (tgt := 89) dX5_bar_84 (by decide) (fun _ => ?_) (fun _ => ?_)
  · exact aw_wk (wk_same (wk_same (wk_same (wk_same (wk_none wk_nil))))) (xX5_bar_J89 a1 a2 a3 σ6)
  refine aw_iconst (pc := 87) (v := (-1)) dX5_bar_87 (by decide) ?_
  exact aw_ret_i (pc := 88) rfl rfl rfl dX5_bar_88
abbrev rmX5_knotOf : Room := { frames := 0, cells := 0, slots := 0, locals := 0 }
def fX5_knotOf (a1 : Int32) (σ : ST) : Option (Int32 × ST) :=
  if (a1 - a1 / 2 * 2) = 0 then (if ib (a1 / 2) 30 = true then some ((σ.1 3 (a1 / 2).toNatClampNeg), σ) else none) else (if ib (a1 / 2) 30 = true then some ((σ.1 4 (a1 / 2).toNatClampNeg), σ) else none)
set_option maxRecDepth 10000 in
theorem xX5_knotOf (a1 : Int32) (σ : ST) : MS wlM yX5_knotOf cX5_knotOf 2 (some .int) rmX5_knotOf emI [.inr (some 0), .inl a1] σ (fX5_knotOf a1 σ) := by
  refine MS.of (by decide +kernel) (Nat.le_of_ble_eq_true rfl) ?_
  show AW wlM yX5_knotOf cX5_knotOf 2 (some .int) rmX5_knotOf emI (fX5_knotOf a1 σ) 0 [some (.inr (some 0)), some (.inl a1)] [] σ
  unfold fX5_knotOf
  refine aw_iload_n (pc := 0) dX5_knotOf_0 rfl rfl ?_
  refine aw_iconst (pc := 1) (v := 2) dX5_knotOf_1 (by decide) ?_
  refine aw_irem (pc := 2) dX5_knotOf_2 (by decide) ?_
  refine aw_if_ne (pc := 3) (tgt := 17) dX5_knotOf_3 (by decide) (fun _ => ?_) (fun _ => ?_)
  · refine aw_aload_n (pc := 6) dX5_knotOf_6 rfl rfl ?_
    refine aw_get (pc := 7) (v := .inr (some 3)) foX5_16 (atM0 _) rfl dX5_knotOf_7 ?_
    refine aw_iload_n (pc := 10) dX5_knotOf_10 rfl rfl ?_
    refine aw_iconst (pc := 11) (v := 2) dX5_knotOf_11 (by decide) ?_
    refine aw_idiv (pc := 12) dX5_knotOf_12 (by decide) ?_
    refine aw_iald' (pc := 13) (atM3 _) dX5_knotOf_13 ?_
    refine aw_goto (pc := 14) (tgt := 25) dX5_knotOf_14 (by decide) ?_
    exact aw_ret_i (pc := 25) rfl rfl rfl dX5_knotOf_25
  refine aw_aload_n (pc := 17) dX5_knotOf_17 rfl rfl ?_
  refine aw_get (pc := 18) (v := .inr (some 4)) foX5_19 (atM0 _) rfl dX5_knotOf_18 ?_
  refine aw_iload_n (pc := 21) dX5_knotOf_21 rfl rfl ?_
  refine aw_iconst (pc := 22) (v := 2) dX5_knotOf_22 (by decide) ?_
  refine aw_idiv (pc := 23) dX5_knotOf_23 (by decide) ?_
  refine aw_iald' (pc := 24) (atM4 _) dX5_knotOf_24 ?_
  exact aw_ret_i (pc := 25) rfl rfl rfl dX5_knotOf_25
abbrev rmX5_come : Room := { frames := 0, cells := 0, slots := 0, locals := 0 }
def fX5_come_J32 (l1 : Int32) (l2 : Int32) (l3 : Int32) (σ : ST) : Option (Int32 × ST) :=
  if ib l1 60 = true then bindv (stI σ 17 l1.toNatClampNeg l2) (fun σ1 => if ib l1 60 = true then bindv (stI σ1 18 l1.toNatClampNeg l3) (fun σ2 => some (1, σ2)) else none) else none
set_option maxRecDepth 10000 in
theorem xX5_come_J32 (l1 : Int32) (l2 : Int32) (l3 : Int32) (σ : ST) : AW wlM yX5_come cX5_come 4 (some .boolean) rmX5_come emI (fX5_come_J32 l1 l2 l3 σ) 32 [some (.inr (some 0)), some (.inl l1), some (.inl l2), some (.inl l3)] [] σ := by
  unfold fX5_come_J32
  refine aw_aload_n (pc := 32) dX5_come_32 rfl rfl ?_
  refine aw_get (pc := 33) (v := .inr (some 17)) foX5_66 (atM0 _) rfl dX5_come_33 ?_
  refine aw_iload_n (pc := 36) dX5_come_36 rfl rfl ?_
  refine aw_iload_n (pc := 37) dX5_come_37 rfl rfl ?_
  refine aw_iastB (pc := 38) (atM17 _) (stM17 _ _ _) dX5_come_38 (fun σ1 => ?_)
  refine aw_aload_n (pc := 39) dX5_come_39 rfl rfl ?_
  refine aw_get (pc := 40) (v := .inr (some 18)) foX5_69 (atM0 _) rfl dX5_come_40 ?_
  refine aw_iload_n (pc := 43) dX5_come_43 rfl rfl ?_
  refine aw_iload_n (pc := 44) dX5_come_44 rfl rfl ?_
  refine aw_iastB (pc := 45) (atM18 _) (stM18 _ _ _) dX5_come_45 (fun σ2 => ?_)
  refine aw_iconst (pc := 46) (v := 1) dX5_come_46 (by decide) ?_
  exact aw_ret_i (pc := 47) rfl rfl rfl dX5_come_47
def fX5_come (a1 : Int32) (a2 : Int32) (a3 : Int32) (σ : ST) : Option (Int32 × ST) :=
  if ib a1 60 = true then if (σ.1 17 a1.toNatClampNeg) < a2 then (some (0, σ)) else (if ib a1 60 = true then if a2 = (σ.1 17 a1.toNatClampNeg) then (if ib a1 60 = true then if a3 < (σ.1 18 a1.toNatClampNeg) then (fX5_come_J32 a1 a2 a3 σ) else (some (0, σ)) else none) else (fX5_come_J32 a1 a2 a3 σ) else none) else none
set_option maxRecDepth 10000 in
theorem xX5_come (a1 : Int32) (a2 : Int32) (a3 : Int32) (σ : ST) : MS wlM yX5_come cX5_come 4 (some .boolean) rmX5_come emI [.inr (some 0), .inl a1, .inl a2, .inl a3] σ (fX5_come a1 a2 a3 σ) := by
  refine MS.of (by decide +kernel) (Nat.le_of_ble_eq_true rfl) ?_
  show AW wlM yX5_come cX5_come 4 (some .boolean) rmX5_come emI (fX5_come a1 a2 a3 σ) 0 [some (.inr (some 0)), some (.inl a1), some (.inl a2), some (.inl a3)] [] σ
  unfold fX5_come
  refine aw_iload_n (pc := 0) dX5_come_0 rfl rfl ?_
  refine aw_aload_n (pc := 1) dX5_come_1 rfl rfl ?_
  refine aw_get (pc := 2) (v := .inr (some 17)) foX5_66 (atM0 _) rfl dX5_come_2 ?_
  refine aw_iload_n (pc := 5) dX5_come_5 rfl rfl ?_
  refine aw_iald' (pc := 6) (atM17 _) dX5_come_6 ?_
  refine aw_icmp_gt (pc := 7) (tgt := 30) dX5_come_7 (by decide) (fun _ => ?_) (fun _ => ?_)
  · refine aw_iconst (pc := 30) (v := 0) dX5_come_30 (by decide) ?_
    exact aw_ret_i (pc := 31) rfl rfl rfl dX5_come_31
  refine aw_iload_n (pc := 10) dX5_come_10 rfl rfl ?_
  refine aw_aload_n (pc := 11) dX5_come_11 rfl rfl ?_
  refine aw_get (pc := 12) (v := .inr (some 17)) foX5_66 (atM0 _) rfl dX5_come_12 ?_
  refine aw_iload_n (pc := 15) dX5_come_15 rfl rfl ?_
  refine aw_iald' (pc := 16) (atM17 _) dX5_come_16 ?_
  refine aw_icmp_ne (pc := 17) (tgt := 32) dX5_come_17 (by decide) (fun _ => ?_) (fun _ => ?_)
  · refine aw_iload_n (pc := 20) dX5_come_20 rfl rfl ?_
    refine aw_aload_n (pc := 21) dX5_come_21 rfl rfl ?_
    refine aw_get (pc := 22) (v := .inr (some 18)) foX5_69 (atM0 _) rfl dX5_come_22 ?_
    refine aw_iload_n (pc := 25) dX5_come_25 rfl rfl ?_
    refine aw_iald' (pc := 26) (atM18 _) dX5_come_26 ?_
    refine aw_icmp_lt (pc := 27) (tgt := 32) dX5_come_27 (by decide) (fun _ => ?_) (fun _ => ?_)
    · exact aw_wk (wk_same (wk_same (wk_same (wk_same wk_nil)))) (xX5_come_J32 a1 a2 a3 σ)
    refine aw_iconst (pc := 30) (v := 0) dX5_come_30 (by decide) ?_
    exact aw_ret_i (pc := 31) rfl rfl rfl dX5_come_31
  exact aw_wk (wk_same (wk_same (wk_same (wk_same wk_nil)))) (xX5_come_J32 a1 a2 a3 σ)
abbrev rmX5_feeOf : Room := { frames := 0, cells := 0, slots := 0, locals := 0 }
def fX5_feeOf (a1 : Int32) (a2 : Int32) (σ : ST) : Option (Int32 × ST) :=
  if a2 ≤ 0 then (some (0, σ)) else (if ib a1 30 = true then some ((σ.1 7 a1.toNatClampNeg), σ) else none)
set_option maxRecDepth 10000 in
theorem xX5_feeOf (a1 : Int32) (a2 : Int32) (σ : ST) : MS wlM yX5_feeOf cX5_feeOf 3 (some .int) rmX5_feeOf emI [.inr (some 0), .inl a1, .inl a2] σ (fX5_feeOf a1 a2 σ) := by
  refine MS.of (by decide +kernel) (Nat.le_of_ble_eq_true rfl) ?_
  show AW wlM yX5_feeOf cX5_feeOf 3 (some .int) rmX5_feeOf emI (fX5_feeOf a1 a2 σ) 0 [some (.inr (some 0)), some (.inl a1), some (.inl a2)] [] σ
  unfold fX5_feeOf
  refine aw_iload_n (pc := 0) dX5_feeOf_0 rfl rfl ?_
  refine aw_if_le (pc := 1) (tgt := 13) dX5_feeOf_1 (by decide) (fun _ => ?_) (fun _ => ?_)
  · refine aw_iconst (pc := 13) (v := 0) dX5_feeOf_13 (by decide) ?_
    exact aw_ret_i (pc := 14) rfl rfl rfl dX5_feeOf_14
  refine aw_aload_n (pc := 4) dX5_feeOf_4 rfl rfl ?_
  refine aw_get (pc := 5) (v := .inr (some 7)) foX5_28 (atM0 _) rfl dX5_feeOf_5 ?_
  refine aw_iload_n (pc := 8) dX5_feeOf_8 rfl rfl ?_
  refine aw_iald' (pc := 9) (atM7 _) dX5_feeOf_9 ?_
  refine aw_goto (pc := 10) (tgt := 14) dX5_feeOf_10 (by decide) ?_
  exact aw_ret_i (pc := 14) rfl rfl rfl dX5_feeOf_14
abbrev rmX5_goOn : Room := { frames := 1, cells := 0, slots := 0, locals := 23 }
def fX5_goOn_J164 (k4 : Int32 → Int32 → Int32 → ST → Option (Int32 × ST)) (l1 : Int32) (l2 : Int32) (l3 : Int32) (σ : ST) : Option (Int32 × ST) :=
  bindv (l3 + 1) (fun v7 => k4 l1 l2 v7 σ)
set_option maxRecDepth 10000 in
theorem xX5_goOn_J164 (k4 : Int32 → Int32 → Int32 → ST → Option (Int32 × ST)) (hk4 : ∀ (l1 : Int32) (l2 : Int32) (l3 : Int32) (σ : ST), AW wlM yX5_goOn cX5_goOn 4 (some .boolean) rmX5_goOn emI (k4 l1 l2 l3 σ) 4 [some (.inr (some 0)), some (.inl l1), some (.inl l2), some (.inl l3)] [] σ) (l1 : Int32) (l2 : Int32) (l3 : Int32) (σ : ST) : AW wlM yX5_goOn cX5_goOn 4 (some .boolean) rmX5_goOn emI (fX5_goOn_J164 k4 l1 l2 l3 σ) 164 [some (.inr (some 0)), some (.inl l1), some (.inl l2), some (.inl l3)] [] σ := by
  unfold fX5_goOn_J164
  refine aw_iincB (pc := 164) (v := 1) (Lf := fun v7 => [some (.inr (some 0)), some (.inl l1), some (.inl l2), some (.inl v7)]) dX5_goOn_164 rfl (by decide) (by decide) (fun _ => rfl) (fun v7 => ?_)
  refine aw_goto (pc := 167) (tgt := 4) dX5_goOn_167 (by decide) ?_
  exact aw_wk (wk_same (wk_same (wk_same (wk_same wk_nil)))) (hk4 l1 l2 v7 σ)
def fX5_goOn_J163 (k4 : Int32 → Int32 → Int32 → ST → Option (Int32 × ST)) (l1 : Int32) (l3 : Int32) (s0 : Int32) (σ : ST) : Option (Int32 × ST) :=
  fX5_goOn_J164 k4 l1 s0 l3 σ
set_option maxRecDepth 10000 in
theorem xX5_goOn_J163 (k4 : Int32 → Int32 → Int32 → ST → Option (Int32 × ST)) (hk4 : ∀ (l1 : Int32) (l2 : Int32) (l3 : Int32) (σ : ST), AW wlM yX5_goOn cX5_goOn 4 (some .boolean) rmX5_goOn emI (k4 l1 l2 l3 σ) 4 [some (.inr (some 0)), some (.inl l1), some (.inl l2), some (.inl l3)] [] σ) (l1 : Int32) (l3 : Int32) (s0 : Int32) (σ : ST) : AW wlM yX5_goOn cX5_goOn 4 (some .boolean) rmX5_goOn emI (fX5_goOn_J163 k4 l1 l3 s0 σ) 163 [some (.inr (some 0)), some (.inl l1), none, some (.inl l3)] [.inl s0] σ := by
  unfold fX5_goOn_J163
  refine aw_stn (pc := 163) (L' := [some (.inr (some 0)), some (.inl l1), some (.inl s0), some (.inl l3)]) dX5_goOn_163 rfl (by decide) rfl ?_
  exact aw_wk (wk_same (wk_same (wk_same (wk_same wk_nil)))) (xX5_goOn_J164 k4 hk4 l1 s0 l3 σ)
def fX5_goOn_J158 (k4 : Int32 → Int32 → Int32 → ST → Option (Int32 × ST)) (l1 : Int32) (l3 : Int32) (σ : ST) : Option (Int32 × ST) :=
  fX5_goOn_J163 k4 l1 l3 1 σ
set_option maxRecDepth 10000 in
theorem xX5_goOn_J158 (k4 : Int32 → Int32 → Int32 → ST → Option (Int32 × ST)) (hk4 : ∀ (l1 : Int32) (l2 : Int32) (l3 : Int32) (σ : ST), AW wlM yX5_goOn cX5_goOn 4 (some .boolean) rmX5_goOn emI (k4 l1 l2 l3 σ) 4 [some (.inr (some 0)), some (.inl l1), some (.inl l2), some (.inl l3)] [] σ) (l1 : Int32) (l3 : Int32) (σ : ST) : AW wlM yX5_goOn cX5_goOn 4 (some .boolean) rmX5_goOn emI (fX5_goOn_J158 k4 l1 l3 σ) 158 [some (.inr (some 0)), some (.inl l1), none, some (.inl l3)] [] σ := by
  unfold fX5_goOn_J158
  refine aw_iconst (pc := 158) (v := 1) dX5_goOn_158 (by decide) ?_
  refine aw_goto (pc := 159) (tgt := 163) dX5_goOn_159 (by decide) ?_
  exact aw_wk (wk_same (wk_same (wk_none (wk_same wk_nil)))) (xX5_goOn_J163 k4 hk4 l1 l3 1 σ)
def fX5_goOn_J92 (k4 : Int32 → Int32 → Int32 → ST → Option (Int32 × ST)) (l1 : Int32) (l2 : Int32) (l3 : Int32) (σ : ST) : Option (Int32 × ST) :=
  if ib l3 30 = true then cb (fX5_knotOf l1 σ) (fun r5 σ6 => if (σ.1 4 l3.toNatClampNeg) = r5 then (if ib l3 30 = true then if (σ6.1 6 l3.toNatClampNeg) = 1 then (fX5_goOn_J164 k4 l1 l2 l3 σ6) else (if ib l1 60 = true then if ib l3 30 = true then if ib l1 60 = true then if ib l3 30 = true then cb (fX5_come (2 * l3) ((σ6.1 17 l1.toNatClampNeg) + (4 * (σ6.1 5 l3.toNatClampNeg))) ((σ6.1 18 l1.toNatClampNeg) + (σ6.1 7 l3.toNatClampNeg)) σ6) (fun r8 σ9 => if r8 = 0 then (if l2 = 0 then (fX5_goOn_J163 k4 l1 l3 0 σ9) else (fX5_goOn_J158 k4 l1 l3 σ9)) else (fX5_goOn_J158 k4 l1 l3 σ9)) else none else none else none else none) else none) else (fX5_goOn_J164 k4 l1 l2 l3 σ6)) else none
set_option maxRecDepth 10000 in
theorem xX5_goOn_J92 (k4 : Int32 → Int32 → Int32 → ST → Option (Int32 × ST)) (hk4 : ∀ (l1 : Int32) (l2 : Int32) (l3 : Int32) (σ : ST), AW wlM yX5_goOn cX5_goOn 4 (some .boolean) rmX5_goOn emI (k4 l1 l2 l3 σ) 4 [some (.inr (some 0)), some (.inl l1), some (.inl l2), some (.inl l3)] [] σ) (l1 : Int32) (l2 : Int32) (l3 : Int32) (σ : ST) : AW wlM yX5_goOn cX5_goOn 4 (some .boolean) rmX5_goOn emI (fX5_goOn_J92 k4 l1 l2 l3 σ) 92 [some (.inr (some 0)), some (.inl l1), some (.inl l2), some (.inl l3)] [] σ := by
  unfold fX5_goOn_J92
  refine aw_aload_n (pc := 92) dX5_goOn_92 rfl rfl ?_
  refine aw_get (pc := 93) (v := .inr (some 4)) foX5_19 (atM0 _) rfl dX5_goOn_93 ?_
  refine aw_iload_n (pc := 96) dX5_goOn_96 rfl rfl ?_
  refine aw_iald' (pc := 97) (atM4 _) dX5_goOn_97 ?_
  refine aw_aload_n (pc := 98) dX5_goOn_98 rfl rfl ?_
  refine aw_iload_n (pc := 99) dX5_goOn_99 rfl rfl ?_
  refine aw_cVI (pc := 100) (st := [.inl (σ.1 4 l3.toNatClampNeg)]) (xX5_knotOf l1 σ) (atM0 _) rfl ckX5_119 ⟨rfl, rfl, by decide, by decide⟩ (Nat.le_of_ble_eq_true rfl) dX5_goOn_100 rfl (fun r5 σ6 => ?_)
  refine aw_icmp_ne (pc := 103) (tgt := 164) dX5_goOn_103 (by decide) (fun _ => ?_) (fun _ => ?_)
  · refine aw_aload_n (pc := 106) dX5_goOn_106 rfl rfl ?_
    refine aw_get (pc := 107) (v := .inr (some 6)) foX5_25 (atM0 _) rfl dX5_goOn_107 ?_
    refine aw_iload_n (pc := 110) dX5_goOn_110 rfl rfl ?_
    refine aw_iald' (pc := 111) (atM6 _) dX5_goOn_111 ?_
    refine aw_iconst (pc := 112) (v := 1) dX5_goOn_112 (by decide) ?_
    refine aw_icmp_eq (pc := 113) (tgt := 164) dX5_goOn_113 (by decide) (fun _ => ?_) (fun _ => ?_)
    · exact aw_wk (wk_same (wk_same (wk_same (wk_same wk_nil)))) (xX5_goOn_J164 k4 hk4 l1 l2 l3 σ6)
    refine aw_aload_n (pc := 116) dX5_goOn_116 rfl rfl ?_
    refine aw_iconst (pc := 117) (v := 2) dX5_goOn_117 (by decide) ?_
    refine aw_iload_n (pc := 118) dX5_goOn_118 rfl rfl ?_
    refine aw_imul (pc := 119) dX5_goOn_119 ?_
    refine aw_aload_n (pc := 120) dX5_goOn_120 rfl rfl ?_
    refine aw_get (pc := 121) (v := .inr (some 17)) foX5_66 (atM0 _) rfl dX5_goOn_121 ?_
    refine aw_iload_n (pc := 124) dX5_goOn_124 rfl rfl ?_
    refine aw_iald' (pc := 125) (atM17 _) dX5_goOn_125 ?_
    refine aw_iconst (pc := 126) (v := 4) dX5_goOn_126 (by decide) ?_
    refine aw_aload_n (pc := 127) dX5_goOn_127 rfl rfl ?_
    refine aw_get (pc := 128) (v := .inr (some 5)) foX5_22 (atM0 _) rfl dX5_goOn_128 ?_
    refine aw_iload_n (pc := 131) dX5_goOn_131 rfl rfl ?_
    refine aw_iald' (pc := 132) (atM5 _) dX5_goOn_132 ?_
    refine aw_imul (pc := 133) dX5_goOn_133 ?_
    refine aw_iadd (pc := 134) dX5_goOn_134 ?_
    refine aw_aload_n (pc := 135) dX5_goOn_135 rfl rfl ?_
    refine aw_get (pc := 136) (v := .inr (some 18)) foX5_69 (atM0 _) rfl dX5_goOn_136 ?_
    refine aw_iload_n (pc := 139) dX5_goOn_139 rfl rfl ?_
    refine aw_iald' (pc := 140) (atM18 _) dX5_goOn_140 ?_
    refine aw_aload_n (pc := 141) dX5_goOn_141 rfl rfl ?_
    refine aw_get (pc := 142) (v := .inr (some 7)) foX5_28 (atM0 _) rfl dX5_goOn_142 ?_
    refine aw_iload_n (pc := 145) dX5_goOn_145 rfl rfl ?_
    refine aw_iald' (pc := 146) (atM7 _) dX5_goOn_146 ?_
    refine aw_iadd (pc := 147) dX5_goOn_147 ?_
    refine aw_cVI (pc := 148) (st := []) (xX5_come (2 * l3) ((σ6.1 17 l1.toNatClampNeg) + (4 * (σ6.1 5 l3.toNatClampNeg))) ((σ6.1 18 l1.toNatClampNeg) + (σ6.1 7 l3.toNatClampNeg)) σ6) (atM0 _) rfl ckX5_113 ⟨rfl, rfl, by decide, by decide⟩ (Nat.le_of_ble_eq_true rfl) dX5_goOn_148 rfl (fun r8 σ9 => ?_)
    refine aw_if_ne (pc := 151) (tgt := 158) dX5_goOn_151 (by decide) (fun _ => ?_) (fun _ => ?_)
    · refine aw_iload_n (pc := 154) dX5_goOn_154 rfl rfl ?_
      refine aw_if_eq (pc := 155) (tgt := 162) dX5_goOn_155 (by decide) (fun _ => ?_) (fun _ => ?_)
      · refine aw_iconst (pc := 162) (v := 0) dX5_goOn_162 (by decide) ?_
        exact aw_wk (wk_same (wk_same (wk_none (wk_same wk_nil)))) (xX5_goOn_J163 k4 hk4 l1 l3 0 σ9)
      exact aw_wk (wk_same (wk_same (wk_none (wk_same wk_nil)))) (xX5_goOn_J158 k4 hk4 l1 l3 σ9)
    exact aw_wk (wk_same (wk_same (wk_none (wk_same wk_nil)))) (xX5_goOn_J158 k4 hk4 l1 l3 σ9)
  exact aw_wk (wk_same (wk_same (wk_same (wk_same wk_nil)))) (xX5_goOn_J164 k4 hk4 l1 l2 l3 σ6)
def fX5_goOn_J91 (k4 : Int32 → Int32 → Int32 → ST → Option (Int32 × ST)) (l1 : Int32) (l3 : Int32) (s0 : Int32) (σ : ST) : Option (Int32 × ST) :=
  fX5_goOn_J92 k4 l1 s0 l3 σ
set_option maxRecDepth 10000 in
theorem xX5_goOn_J91 (k4 : Int32 → Int32 → Int32 → ST → Option (Int32 × ST)) (hk4 : ∀ (l1 : Int32) (l2 : Int32) (l3 : Int32) (σ : ST), AW wlM yX5_goOn cX5_goOn 4 (some .boolean) rmX5_goOn emI (k4 l1 l2 l3 σ) 4 [some (.inr (some 0)), some (.inl l1), some (.inl l2), some (.inl l3)] [] σ) (l1 : Int32) (l3 : Int32) (s0 : Int32) (σ : ST) : AW wlM yX5_goOn cX5_goOn 4 (some .boolean) rmX5_goOn emI (fX5_goOn_J91 k4 l1 l3 s0 σ) 91 [some (.inr (some 0)), some (.inl l1), none, some (.inl l3)] [.inl s0] σ := by
  unfold fX5_goOn_J91
  refine aw_stn (pc := 91) (L' := [some (.inr (some 0)), some (.inl l1), some (.inl s0), some (.inl l3)]) dX5_goOn_91 rfl (by decide) rfl ?_
  exact aw_wk (wk_same (wk_same (wk_same (wk_same wk_nil)))) (xX5_goOn_J92 k4 hk4 l1 s0 l3 σ)
def fX5_goOn_J86 (k4 : Int32 → Int32 → Int32 → ST → Option (Int32 × ST)) (l1 : Int32) (l3 : Int32) (σ : ST) : Option (Int32 × ST) :=
  fX5_goOn_J91 k4 l1 l3 1 σ
set_option maxRecDepth 10000 in
theorem xX5_goOn_J86 (k4 : Int32 → Int32 → Int32 → ST → Option (Int32 × ST)) (hk4 : ∀ (l1 : Int32) (l2 : Int32) (l3 : Int32) (σ : ST), AW wlM yX5_goOn cX5_goOn 4 (some .boolean) rmX5_goOn emI (k4 l1 l2 l3 σ) 4 [some (.inr (some 0)), some (.inl l1), some (.inl l2), some (.inl l3)] [] σ) (l1 : Int32) (l3 : Int32) (σ : ST) : AW wlM yX5_goOn cX5_goOn 4 (some .boolean) rmX5_goOn emI (fX5_goOn_J86 k4 l1 l3 σ) 86 [some (.inr (some 0)), some (.inl l1), none, some (.inl l3)] [] σ := by
  unfold fX5_goOn_J86
  refine aw_iconst (pc := 86) (v := 1) dX5_goOn_86 (by decide) ?_
  refine aw_goto (pc := 87) (tgt := 91) dX5_goOn_87 (by decide) ?_
  exact aw_wk (wk_same (wk_same (wk_none (wk_same wk_nil)))) (xX5_goOn_J91 k4 hk4 l1 l3 1 σ)
def fX5_goOn_B4 (k4 : Int32 → Int32 → Int32 → ST → Option (Int32 × ST)) (l1 : Int32) (l2 : Int32) (l3 : Int32) (σ : ST) : Option (Int32 × ST) :=
  if (σ.1 0 8) ≤ l3 then (if (l2 = 0 ∨ l2 = 1) then some (l2, σ) else none) else (if ib ((30 * (l1 / 2)) + l3) 900 = true then if (σ.1 8 ((30 * (l1 / 2)) + l3).toNatClampNeg) = 0 then (if ib l3 30 = true then cb (fX5_knotOf l1 σ) (fun r1 σ2 => if (σ.1 3 l3.toNatClampNeg) = r1 then (if ib l1 60 = true then if ib l3 30 = true then if ib l1 60 = true then if ib l3 30 = true then cb (fX5_come ((2 * l3) + 1) ((σ2.1 17 l1.toNatClampNeg) + (4 * (σ2.1 5 l3.toNatClampNeg))) ((σ2.1 18 l1.toNatClampNeg) + (σ2.1 7 l3.toNatClampNeg)) σ2) (fun r3 σ4 => if r3 = 0 then (if l2 = 0 then (fX5_goOn_J91 k4 l1 l3 0 σ4) else (fX5_goOn_J86 k4 l1 l3 σ4)) else (fX5_goOn_J86 k4 l1 l3 σ4)) else none else none else none else none) else (fX5_goOn_J92 k4 l1 l2 l3 σ2)) else none) else (fX5_goOn_J164 k4 l1 l2 l3 σ) else none)
set_option maxRecDepth 10000 in
theorem xX5_goOn_B4 (k4 : Int32 → Int32 → Int32 → ST → Option (Int32 × ST)) (hk4 : ∀ (l1 : Int32) (l2 : Int32) (l3 : Int32) (σ : ST), AW wlM yX5_goOn cX5_goOn 4 (some .boolean) rmX5_goOn emI (k4 l1 l2 l3 σ) 4 [some (.inr (some 0)), some (.inl l1), some (.inl l2), some (.inl l3)] [] σ) (l1 : Int32) (l2 : Int32) (l3 : Int32) (σ : ST) : AW wlM yX5_goOn cX5_goOn 4 (some .boolean) rmX5_goOn emI (fX5_goOn_B4 k4 l1 l2 l3 σ) 4 [some (.inr (some 0)), some (.inl l1), some (.inl l2), some (.inl l3)] [] σ := by
  unfold fX5_goOn_B4
  refine aw_iload_n (pc := 4) dX5_goOn_4 rfl rfl ?_
  refine aw_aload_n (pc := 5) dX5_goOn_5 rfl rfl ?_
  refine aw_get (pc := 6) (v := .inl (σ.1 0 8)) foX5_94 (atM0 _) rfl dX5_goOn_6 ?_
  refine aw_icmp_ge (pc := 9) (tgt := 170) dX5_goOn_9 (by decide) (fun _ => ?_) (fun _ => ?_)
  · refine aw_iload_n (pc := 170) dX5_goOn_170 rfl rfl ?_
    exact aw_rz (pc := 171) rfl rfl dX5_goOn_171
  refine aw_aload_n (pc := 12) dX5_goOn_12 rfl rfl ?_
  refine aw_get (pc := 13) (v := .inr (some 8)) foX5_31 (atM0 _) rfl dX5_goOn_13 ?_
  refine aw_bipush (pc := 16) (v := 30) dX5_goOn_16 (by decide) ?_
  refine aw_iload_n (pc := 18) dX5_goOn_18 rfl rfl ?_
  refine aw_iconst (pc := 19) (v := 2) dX5_goOn_19 (by decide) ?_
  refine aw_idiv (pc := 20) dX5_goOn_20 (by decide) ?_
  refine aw_imul (pc := 21) dX5_goOn_21 ?_
  refine aw_iload_n (pc := 22) dX5_goOn_22 rfl rfl ?_
  refine aw_iadd (pc := 23) dX5_goOn_23 ?_
  refine aw_bald' (pc := 24) (atM8 _) dX5_goOn_24 ?_
  refine aw_if_ne (pc := 25) (tgt := 164) dX5_goOn_25 (by decide) (fun _ => ?_) (fun _ => ?_)
  · refine aw_aload_n (pc := 28) dX5_goOn_28 rfl rfl ?_
    refine aw_get (pc := 29) (v := .inr (some 3)) foX5_16 (atM0 _) rfl dX5_goOn_29 ?_
    refine aw_iload_n (pc := 32) dX5_goOn_32 rfl rfl ?_
    refine aw_iald' (pc := 33) (atM3 _) dX5_goOn_33 ?_
    refine aw_aload_n (pc := 34) dX5_goOn_34 rfl rfl ?_
    refine aw_iload_n (pc := 35) dX5_goOn_35 rfl rfl ?_
    refine aw_cVI (pc := 36) (st := [.inl (σ.1 3 l3.toNatClampNeg)]) (xX5_knotOf l1 σ) (atM0 _) rfl ckX5_119 ⟨rfl, rfl, by decide, by decide⟩ (Nat.le_of_ble_eq_true rfl) dX5_goOn_36 rfl (fun r1 σ2 => ?_)
    refine aw_icmp_ne (pc := 39) (tgt := 92) dX5_goOn_39 (by decide) (fun _ => ?_) (fun _ => ?_)
    · refine aw_aload_n (pc := 42) dX5_goOn_42 rfl rfl ?_
      refine aw_iconst (pc := 43) (v := 2) dX5_goOn_43 (by decide) ?_
      refine aw_iload_n (pc := 44) dX5_goOn_44 rfl rfl ?_
      refine aw_imul (pc := 45) dX5_goOn_45 ?_
      refine aw_iconst (pc := 46) (v := 1) dX5_goOn_46 (by decide) ?_
      refine aw_iadd (pc := 47) dX5_goOn_47 ?_
      refine aw_aload_n (pc := 48) dX5_goOn_48 rfl rfl ?_
      refine aw_get (pc := 49) (v := .inr (some 17)) foX5_66 (atM0 _) rfl dX5_goOn_49 ?_
      refine aw_iload_n (pc := 52) dX5_goOn_52 rfl rfl ?_
      refine aw_iald' (pc := 53) (atM17 _) dX5_goOn_53 ?_
      refine aw_iconst (pc := 54) (v := 4) dX5_goOn_54 (by decide) ?_
      refine aw_aload_n (pc := 55) dX5_goOn_55 rfl rfl ?_
      refine aw_get (pc := 56) (v := .inr (some 5)) foX5_22 (atM0 _) rfl dX5_goOn_56 ?_
      refine aw_iload_n (pc := 59) dX5_goOn_59 rfl rfl ?_
      refine aw_iald' (pc := 60) (atM5 _) dX5_goOn_60 ?_
      refine aw_imul (pc := 61) dX5_goOn_61 ?_
      refine aw_iadd (pc := 62) dX5_goOn_62 ?_
      refine aw_aload_n (pc := 63) dX5_goOn_63 rfl rfl ?_
      refine aw_get (pc := 64) (v := .inr (some 18)) foX5_69 (atM0 _) rfl dX5_goOn_64 ?_
      refine aw_iload_n (pc := 67) dX5_goOn_67 rfl rfl ?_
      refine aw_iald' (pc := 68) (atM18 _) dX5_goOn_68 ?_
      refine aw_aload_n (pc := 69) dX5_goOn_69 rfl rfl ?_
      refine aw_get (pc := 70) (v := .inr (some 7)) foX5_28 (atM0 _) rfl dX5_goOn_70 ?_
      refine aw_iload_n (pc := 73) dX5_goOn_73 rfl rfl ?_
      refine aw_iald' (pc := 74) (atM7 _) dX5_goOn_74 ?_
      refine aw_iadd (pc := 75) dX5_goOn_75 ?_
      refine aw_cVI (pc := 76) (st := []) (xX5_come ((2 * l3) + 1) ((σ2.1 17 l1.toNatClampNeg) + (4 * (σ2.1 5 l3.toNatClampNeg))) ((σ2.1 18 l1.toNatClampNeg) + (σ2.1 7 l3.toNatClampNeg)) σ2) (atM0 _) rfl ckX5_113 ⟨rfl, rfl, by decide, by decide⟩ (Nat.le_of_ble_eq_true rfl) dX5_goOn_76 rfl (fun r3 σ4 => ?_)
      refine aw_if_ne (pc := 79) (tgt := 86) dX5_goOn_79 (by decide) (fun _ => ?_) (fun _ => ?_)
      · refine aw_iload_n (pc := 82) dX5_goOn_82 rfl rfl ?_
        refine aw_if_eq (pc := 83) (tgt := 90) dX5_goOn_83 (by decide) (fun _ => ?_) (fun _ => ?_)
        · refine aw_iconst (pc := 90) (v := 0) dX5_goOn_90 (by decide) ?_
          exact aw_wk (wk_same (wk_same (wk_none (wk_same wk_nil)))) (xX5_goOn_J91 k4 hk4 l1 l3 0 σ4)
        exact aw_wk (wk_same (wk_same (wk_none (wk_same wk_nil)))) (xX5_goOn_J86 k4 hk4 l1 l3 σ4)
      exact aw_wk (wk_same (wk_same (wk_none (wk_same wk_nil)))) (xX5_goOn_J86 k4 hk4 l1 l3 σ4)
    exact aw_wk (wk_same (wk_same (wk_same (wk_same wk_nil)))) (xX5_goOn_J92 k4 hk4 l1 l2 l3 σ2)
  exact aw_wk (wk_same (wk_same (wk_same (wk_same wk_nil)))) (xX5_goOn_J164 k4 hk4 l1 l2 l3 σ)
def fX5_goOn_L4 (n : Nat) (l1 : Int32) (l2 : Int32) (l3 : Int32) (σ : ST) : Option (Int32 × ST) := loopN (α := Int32 × Int32 × Int32 × ST) (fun k a => fX5_goOn_B4 (fun l1 l2 l3 σ => k (l1, l2, l3, σ)) a.1 a.2.1 a.2.2.1 a.2.2.2) n (l1, l2, l3, σ)
theorem xX5_goOn_L4 (n : Nat) (l1 : Int32) (l2 : Int32) (l3 : Int32) (σ : ST) : AW wlM yX5_goOn cX5_goOn 4 (some .boolean) rmX5_goOn emI (fX5_goOn_L4 n l1 l2 l3 σ) 4 [some (.inr (some 0)), some (.inl l1), some (.inl l2), some (.inl l3)] [] σ :=
  aw_loop (α := Int32 × Int32 × Int32 × ST) (Lf := fun a => [some (.inr (some 0)), some (.inl (a.1)), some (.inl (a.2.1)), some (.inl (a.2.2.1))]) (sf := fun a => a.2.2.2) (fun k hk a => by
    obtain ⟨l1, l2, l3, σ⟩ := a
    exact xX5_goOn_B4 (fun l1 l2 l3 σ => k (l1, l2, l3, σ)) (fun l1 l2 l3 σ => hk (l1, l2, l3, σ)) l1 l2 l3 σ) n (l1, l2, l3, σ)
def fX5_goOn (a1 : Int32) (σ : ST) : Option (Int32 × ST) :=
  fX5_goOn_L4 FU a1 0 0 σ
set_option maxRecDepth 10000 in
theorem xX5_goOn (a1 : Int32) (σ : ST) : MS wlM yX5_goOn cX5_goOn 4 (some .boolean) rmX5_goOn emI [.inr (some 0), .inl a1] σ (fX5_goOn a1 σ) := by
  refine MS.of (by decide +kernel) (Nat.le_of_ble_eq_true rfl) ?_
  show AW wlM yX5_goOn cX5_goOn 4 (some .boolean) rmX5_goOn emI (fX5_goOn a1 σ) 0 [some (.inr (some 0)), some (.inl a1), none, none] [] σ
  unfold fX5_goOn
  refine aw_iconst (pc := 0) (v := 0) dX5_goOn_0 (by decide) ?_
  refine aw_stn (pc := 1) (L' := [some (.inr (some 0)), some (.inl a1), some (.inl 0), none]) dX5_goOn_1 rfl (by decide) rfl ?_
  refine aw_iconst (pc := 2) (v := 0) dX5_goOn_2 (by decide) ?_
  refine aw_stn (pc := 3) (L' := [some (.inr (some 0)), some (.inl a1), some (.inl 0), some (.inl 0)]) dX5_goOn_3 rfl (by decide) rfl ?_
  exact aw_wk (wk_same (wk_same (wk_same (wk_same wk_nil)))) (xX5_goOn_L4 FU a1 0 0 σ)
abbrev rmX5_comeFrom : Room := { frames := 2, cells := 0, slots := 0, locals := 46 }
def fX5_comeFrom_J175 (k120 : Int32 → ST → Option (Unit × ST)) (k131 : Int32 → Int32 → ST → Option (Unit × ST)) (l4 : Int32) (l5 : Int32) (σ : ST) : Option (Unit × ST) :=
  bindv (l5 + 1) (fun v11 => k131 l4 v11 σ)
set_option maxRecDepth 10000 in
theorem xX5_comeFrom_J175 (k120 : Int32 → ST → Option (Unit × ST)) (k131 : Int32 → Int32 → ST → Option (Unit × ST)) (hk120 : ∀ (l4 : Int32) (σ : ST), AW wlM yX5_comeFrom cX5_comeFrom 6 none rmX5_comeFrom emV (k120 l4 σ) 120 [some (.inr (some 0)), none, none, none, some (.inl l4), none] [] σ) (hk131 : ∀ (l4 : Int32) (l5 : Int32) (σ : ST), AW wlM yX5_comeFrom cX5_comeFrom 6 none rmX5_comeFrom emV (k131 l4 l5 σ) 131 [some (.inr (some 0)), none, none, none, some (.inl l4), some (.inl l5)] [] σ) (l4 : Int32) (l5 : Int32) (σ : ST) : AW wlM yX5_comeFrom cX5_comeFrom 6 none rmX5_comeFrom emV (fX5_comeFrom_J175 k120 k131 l4 l5 σ) 175 [some (.inr (some 0)), none, none, none, some (.inl l4), some (.inl l5)] [] σ := by
  unfold fX5_comeFrom_J175
  refine aw_iincB (pc := 175) (v := 1) (Lf := fun v11 => [some (.inr (some 0)), none, none, none, some (.inl l4), some (.inl v11)]) dX5_comeFrom_175 rfl (by decide) (by decide) (fun _ => rfl) (fun v11 => ?_)
  refine aw_goto (pc := 178) (tgt := 131) dX5_comeFrom_178 (by decide) ?_
  exact aw_wk (wk_same (wk_none (wk_none (wk_none (wk_same (wk_same wk_nil)))))) (hk131 l4 v11 σ)
def fX5_comeFrom_J173 (k120 : Int32 → ST → Option (Unit × ST)) (k131 : Int32 → Int32 → ST → Option (Unit × ST)) (l5 : Int32) (s0 : Int32) (σ : ST) : Option (Unit × ST) :=
  fX5_comeFrom_J175 k120 k131 s0 l5 σ
set_option maxRecDepth 10000 in
theorem xX5_comeFrom_J173 (k120 : Int32 → ST → Option (Unit × ST)) (k131 : Int32 → Int32 → ST → Option (Unit × ST)) (hk120 : ∀ (l4 : Int32) (σ : ST), AW wlM yX5_comeFrom cX5_comeFrom 6 none rmX5_comeFrom emV (k120 l4 σ) 120 [some (.inr (some 0)), none, none, none, some (.inl l4), none] [] σ) (hk131 : ∀ (l4 : Int32) (l5 : Int32) (σ : ST), AW wlM yX5_comeFrom cX5_comeFrom 6 none rmX5_comeFrom emV (k131 l4 l5 σ) 131 [some (.inr (some 0)), none, none, none, some (.inl l4), some (.inl l5)] [] σ) (l5 : Int32) (s0 : Int32) (σ : ST) : AW wlM yX5_comeFrom cX5_comeFrom 6 none rmX5_comeFrom emV (fX5_comeFrom_J173 k120 k131 l5 s0 σ) 173 [some (.inr (some 0)), none, none, none, none, some (.inl l5)] [.inl s0] σ := by
  unfold fX5_comeFrom_J173
  refine aw_st (pc := 173) (L' := [some (.inr (some 0)), none, none, none, some (.inl s0), some (.inl l5)]) dX5_comeFrom_173 (by decide) rfl ?_
  exact aw_wk (wk_same (wk_none (wk_none (wk_none (wk_same (wk_same wk_nil)))))) (xX5_comeFrom_J175 k120 k131 hk120 hk131 s0 l5 σ)
def fX5_comeFrom_J168 (k120 : Int32 → ST → Option (Unit × ST)) (k131 : Int32 → Int32 → ST → Option (Unit × ST)) (l5 : Int32) (σ : ST) : Option (Unit × ST) :=
  fX5_comeFrom_J173 k120 k131 l5 1 σ
set_option maxRecDepth 10000 in
theorem xX5_comeFrom_J168 (k120 : Int32 → ST → Option (Unit × ST)) (k131 : Int32 → Int32 → ST → Option (Unit × ST)) (hk120 : ∀ (l4 : Int32) (σ : ST), AW wlM yX5_comeFrom cX5_comeFrom 6 none rmX5_comeFrom emV (k120 l4 σ) 120 [some (.inr (some 0)), none, none, none, some (.inl l4), none] [] σ) (hk131 : ∀ (l4 : Int32) (l5 : Int32) (σ : ST), AW wlM yX5_comeFrom cX5_comeFrom 6 none rmX5_comeFrom emV (k131 l4 l5 σ) 131 [some (.inr (some 0)), none, none, none, some (.inl l4), some (.inl l5)] [] σ) (l5 : Int32) (σ : ST) : AW wlM yX5_comeFrom cX5_comeFrom 6 none rmX5_comeFrom emV (fX5_comeFrom_J168 k120 k131 l5 σ) 168 [some (.inr (some 0)), none, none, none, none, some (.inl l5)] [] σ := by
  unfold fX5_comeFrom_J168
  refine aw_iconst (pc := 168) (v := 1) dX5_comeFrom_168 (by decide) ?_
  refine aw_goto (pc := 169) (tgt := 173) dX5_comeFrom_169 (by decide) ?_
  exact aw_wk (wk_same (wk_none (wk_none (wk_none (wk_none (wk_same wk_nil)))))) (xX5_comeFrom_J173 k120 k131 hk120 hk131 l5 1 σ)
def fX5_comeFrom_B131 (k120 : Int32 → ST → Option (Unit × ST)) (k131 : Int32 → Int32 → ST → Option (Unit × ST)) (l4 : Int32) (l5 : Int32) (σ : ST) : Option (Unit × ST) :=
  if (2 * (σ.1 0 8)) ≤ l5 then (k120 l4 σ) else (if ib l5 60 = true then if 1000000000 ≤ (σ.1 17 l5.toNatClampNeg) then (fX5_comeFrom_J175 k120 k131 l4 l5 σ) else (cb (fX5_goOn l5 σ) (fun r12 σ13 => if r12 = 0 then (if l4 = 0 then (fX5_comeFrom_J173 k120 k131 l5 0 σ13) else (fX5_comeFrom_J168 k120 k131 l5 σ13)) else (fX5_comeFrom_J168 k120 k131 l5 σ13))) else none)
set_option maxRecDepth 10000 in
theorem xX5_comeFrom_B131 (k120 : Int32 → ST → Option (Unit × ST)) (k131 : Int32 → Int32 → ST → Option (Unit × ST)) (hk120 : ∀ (l4 : Int32) (σ : ST), AW wlM yX5_comeFrom cX5_comeFrom 6 none rmX5_comeFrom emV (k120 l4 σ) 120 [some (.inr (some 0)), none, none, none, some (.inl l4), none] [] σ) (hk131 : ∀ (l4 : Int32) (l5 : Int32) (σ : ST), AW wlM yX5_comeFrom cX5_comeFrom 6 none rmX5_comeFrom emV (k131 l4 l5 σ) 131 [some (.inr (some 0)), none, none, none, some (.inl l4), some (.inl l5)] [] σ) (l4 : Int32) (l5 : Int32) (σ : ST) : AW wlM yX5_comeFrom cX5_comeFrom 6 none rmX5_comeFrom emV (fX5_comeFrom_B131 k120 k131 l4 l5 σ) 131 [some (.inr (some 0)), none, none, none, some (.inl l4), some (.inl l5)] [] σ := by
  unfold fX5_comeFrom_B131
  refine aw_iload (pc := 131) dX5_comeFrom_131 rfl ?_
  refine aw_iconst (pc := 133) (v := 2) dX5_comeFrom_133 (by decide) ?_
  refine aw_aload_n (pc := 134) dX5_comeFrom_134 rfl rfl ?_
  refine aw_get (pc := 135) (v := .inl (σ.1 0 8)) foX5_94 (atM0 _) rfl dX5_comeFrom_135 ?_
  refine aw_imul (pc := 138) dX5_comeFrom_138 ?_
  refine aw_icmp_ge (pc := 139) (tgt := 181) dX5_comeFrom_139 (by decide) (fun _ => ?_) (fun _ => ?_)
  · refine aw_goto (pc := 181) (tgt := 120) dX5_comeFrom_181 (by decide) ?_
    exact aw_wk (wk_same (wk_none (wk_none (wk_none (wk_same (wk_none wk_nil)))))) (hk120 l4 σ)
  refine aw_aload_n (pc := 142) dX5_comeFrom_142 rfl rfl ?_
  refine aw_get (pc := 143) (v := .inr (some 17)) foX5_66 (atM0 _) rfl dX5_comeFrom_143 ?_
  refine aw_iload (pc := 146) dX5_comeFrom_146 rfl ?_
  refine aw_iald' (pc := 148) (atM17 _) dX5_comeFrom_148 ?_
  refine aw_ldc (pc := 149) lcX5_108 dX5_comeFrom_149 ?_
  refine aw_icmp_ge (pc := 151) (tgt := 175) dX5_comeFrom_151 (by decide) (fun _ => ?_) (fun _ => ?_)
  · exact aw_wk (wk_same (wk_none (wk_none (wk_none (wk_same (wk_same wk_nil)))))) (xX5_comeFrom_J175 k120 k131 hk120 hk131 l4 l5 σ)
  refine aw_aload_n (pc := 154) dX5_comeFrom_154 rfl rfl ?_
  refine aw_iload (pc := 155) dX5_comeFrom_155 rfl ?_
  refine aw_cVI (pc := 157) (st := []) (xX5_goOn l5 σ) (atM0 _) rfl ckX5_116 ⟨rfl, rfl, by decide, by decide⟩ (Nat.le_of_ble_eq_true rfl) dX5_comeFrom_157 rfl (fun r12 σ13 => ?_)
  refine aw_if_ne (pc := 160) (tgt := 168) dX5_comeFrom_160 (by decide) (fun _ => ?_) (fun _ => ?_)
  · refine aw_iload (pc := 163) dX5_comeFrom_163 rfl ?_
    refine aw_if_eq (pc := 165) (tgt := 172) dX5_comeFrom_165 (by decide) (fun _ => ?_) (fun _ => ?_)
    · refine aw_iconst (pc := 172) (v := 0) dX5_comeFrom_172 (by decide) ?_
      exact aw_wk (wk_same (wk_none (wk_none (wk_none (wk_none (wk_same wk_nil)))))) (xX5_comeFrom_J173 k120 k131 hk120 hk131 l5 0 σ13)
    exact aw_wk (wk_same (wk_none (wk_none (wk_none (wk_none (wk_same wk_nil)))))) (xX5_comeFrom_J168 k120 k131 hk120 hk131 l5 σ13)
  exact aw_wk (wk_same (wk_none (wk_none (wk_none (wk_none (wk_same wk_nil)))))) (xX5_comeFrom_J168 k120 k131 hk120 hk131 l5 σ13)
def fX5_comeFrom_L131 (k120 : Int32 → ST → Option (Unit × ST)) (n : Nat) (l4 : Int32) (l5 : Int32) (σ : ST) : Option (Unit × ST) := loopN (α := Int32 × Int32 × ST) (fun k a => fX5_comeFrom_B131 k120 (fun l4 l5 σ => k (l4, l5, σ)) a.1 a.2.1 a.2.2) n (l4, l5, σ)
theorem xX5_comeFrom_L131 (k120 : Int32 → ST → Option (Unit × ST)) (hk120 : ∀ (l4 : Int32) (σ : ST), AW wlM yX5_comeFrom cX5_comeFrom 6 none rmX5_comeFrom emV (k120 l4 σ) 120 [some (.inr (some 0)), none, none, none, some (.inl l4), none] [] σ) (n : Nat) (l4 : Int32) (l5 : Int32) (σ : ST) : AW wlM yX5_comeFrom cX5_comeFrom 6 none rmX5_comeFrom emV (fX5_comeFrom_L131 k120 n l4 l5 σ) 131 [some (.inr (some 0)), none, none, none, some (.inl l4), some (.inl l5)] [] σ :=
  aw_loop (α := Int32 × Int32 × ST) (Lf := fun a => [some (.inr (some 0)), none, none, none, some (.inl (a.1)), some (.inl (a.2.1))]) (sf := fun a => a.2.2) (fun k hk a => by
    obtain ⟨l4, l5, σ⟩ := a
    exact xX5_comeFrom_B131 k120 (fun l4 l5 σ => k (l4, l5, σ)) hk120 (fun l4 l5 σ => hk (l4, l5, σ)) l4 l5 σ) n (l4, l5, σ)
def fX5_comeFrom_B120 (k120 : Int32 → ST → Option (Unit × ST)) (l4 : Int32) (σ : ST) : Option (Unit × ST) :=
  if l4 = 0 then (some ((), σ)) else (fX5_comeFrom_L131 k120 FU 0 0 σ)
set_option maxRecDepth 10000 in
theorem xX5_comeFrom_B120 (k120 : Int32 → ST → Option (Unit × ST)) (hk120 : ∀ (l4 : Int32) (σ : ST), AW wlM yX5_comeFrom cX5_comeFrom 6 none rmX5_comeFrom emV (k120 l4 σ) 120 [some (.inr (some 0)), none, none, none, some (.inl l4), none] [] σ) (l4 : Int32) (σ : ST) : AW wlM yX5_comeFrom cX5_comeFrom 6 none rmX5_comeFrom emV (fX5_comeFrom_B120 k120 l4 σ) 120 [some (.inr (some 0)), none, none, none, some (.inl l4), none] [] σ := by
  unfold fX5_comeFrom_B120
  refine aw_iload (pc := 120) dX5_comeFrom_120 rfl ?_
  refine aw_if_eq (pc := 122) (tgt := 184) dX5_comeFrom_122 (by decide) (fun _ => ?_) (fun _ => ?_)
  · exact aw_ret_v (pc := 184) rfl rfl dX5_comeFrom_184
  refine aw_iconst (pc := 125) (v := 0) dX5_comeFrom_125 (by decide) ?_
  refine aw_st (pc := 126) (L' := [some (.inr (some 0)), none, none, none, some (.inl 0), none]) dX5_comeFrom_126 (by decide) rfl ?_
  refine aw_iconst (pc := 128) (v := 0) dX5_comeFrom_128 (by decide) ?_
  refine aw_st (pc := 129) (L' := [some (.inr (some 0)), none, none, none, some (.inl 0), some (.inl 0)]) dX5_comeFrom_129 (by decide) rfl ?_
  exact aw_wk (wk_same (wk_none (wk_none (wk_none (wk_same (wk_same wk_nil)))))) (xX5_comeFrom_L131 k120 hk120 FU 0 0 σ)
def fX5_comeFrom_L120 (n : Nat) (l4 : Int32) (σ : ST) : Option (Unit × ST) := loopN (α := Int32 × ST) (fun k a => fX5_comeFrom_B120 (fun l4 σ => k (l4, σ)) a.1 a.2) n (l4, σ)
theorem xX5_comeFrom_L120 (n : Nat) (l4 : Int32) (σ : ST) : AW wlM yX5_comeFrom cX5_comeFrom 6 none rmX5_comeFrom emV (fX5_comeFrom_L120 n l4 σ) 120 [some (.inr (some 0)), none, none, none, some (.inl l4), none] [] σ :=
  aw_loop (α := Int32 × ST) (Lf := fun a => [some (.inr (some 0)), none, none, none, some (.inl (a.1)), none]) (sf := fun a => a.2) (fun k hk a => by
    obtain ⟨l4, σ⟩ := a
    exact xX5_comeFrom_B120 (fun l4 σ => k (l4, σ)) (fun l4 σ => hk (l4, σ)) l4 σ) n (l4, σ)
def fX5_comeFrom_J118 (s0 : Int32) (σ : ST) : Option (Unit × ST) :=
  fX5_comeFrom_L120 FU s0 σ
set_option maxRecDepth 10000 in
theorem xX5_comeFrom_J118 (s0 : Int32) (σ : ST) : AW wlM yX5_comeFrom cX5_comeFrom 6 none rmX5_comeFrom emV (fX5_comeFrom_J118 s0 σ) 118 [some (.inr (some 0)), none, none, none, none, none] [.inl s0] σ := by
  unfold fX5_comeFrom_J118
  refine aw_st (pc := 118) (L' := [some (.inr (some 0)), none, none, none, some (.inl s0), none]) dX5_comeFrom_118 (by decide) rfl ?_
  exact aw_wk (wk_same (wk_none (wk_none (wk_none (wk_same (wk_none wk_nil)))))) (xX5_comeFrom_L120 FU s0 σ)
def fX5_comeFrom_J113 (σ : ST) : Option (Unit × ST) :=
  fX5_comeFrom_J118 1 σ
set_option maxRecDepth 10000 in
theorem xX5_comeFrom_J113 (σ : ST) : AW wlM yX5_comeFrom cX5_comeFrom 6 none rmX5_comeFrom emV (fX5_comeFrom_J113 σ) 113 [some (.inr (some 0)), none, none, none, none, none] [] σ := by
  unfold fX5_comeFrom_J113
  refine aw_iconst (pc := 113) (v := 1) dX5_comeFrom_113 (by decide) ?_
  refine aw_goto (pc := 114) (tgt := 118) dX5_comeFrom_114 (by decide) ?_
  exact aw_wk (wk_same (wk_none (wk_none (wk_none (wk_none (wk_none wk_nil)))))) (xX5_comeFrom_J118 1 σ)
def fX5_comeFrom_J84 (l2 : Int32) (l3 : Int32) (l4 : Int32) (σ : ST) : Option (Unit × ST) :=
  if ib l2 30 = true then cb (fX5_feeOf l2 l3 σ) (fun r7 σ8 => cb (fX5_come (2 * l2) (l3 * (σ.1 5 l2.toNatClampNeg)) r7 σ8) (fun r9 σ10 => if r9 = 0 then (if l4 = 0 then (fX5_comeFrom_J118 0 σ10) else (fX5_comeFrom_J113 σ10)) else (fX5_comeFrom_J113 σ10))) else none
set_option maxRecDepth 10000 in
theorem xX5_comeFrom_J84 (l2 : Int32) (l3 : Int32) (l4 : Int32) (σ : ST) : AW wlM yX5_comeFrom cX5_comeFrom 6 none rmX5_comeFrom emV (fX5_comeFrom_J84 l2 l3 l4 σ) 84 [some (.inr (some 0)), none, some (.inl l2), some (.inl l3), some (.inl l4), none] [] σ := by
  unfold fX5_comeFrom_J84
  refine aw_aload_n (pc := 84) dX5_comeFrom_84 rfl rfl ?_
  refine aw_iconst (pc := 85) (v := 2) dX5_comeFrom_85 (by decide) ?_
  refine aw_iload_n (pc := 86) dX5_comeFrom_86 rfl rfl ?_
  refine aw_imul (pc := 87) dX5_comeFrom_87 ?_
  refine aw_iload_n (pc := 88) dX5_comeFrom_88 rfl rfl ?_
  refine aw_aload_n (pc := 89) dX5_comeFrom_89 rfl rfl ?_
  refine aw_get (pc := 90) (v := .inr (some 5)) foX5_22 (atM0 _) rfl dX5_comeFrom_90 ?_
  refine aw_iload_n (pc := 93) dX5_comeFrom_93 rfl rfl ?_
  refine aw_iald' (pc := 94) (atM5 _) dX5_comeFrom_94 ?_
  refine aw_imul (pc := 95) dX5_comeFrom_95 ?_
  refine aw_aload_n (pc := 96) dX5_comeFrom_96 rfl rfl ?_
  refine aw_iload_n (pc := 97) dX5_comeFrom_97 rfl rfl ?_
  refine aw_iload_n (pc := 98) dX5_comeFrom_98 rfl rfl ?_
  refine aw_cVI (pc := 99) (st := [.inl (l3 * (σ.1 5 l2.toNatClampNeg)), .inl (2 * l2), .inr (some 0)]) (xX5_feeOf l2 l3 σ) (atM0 _) rfl ckX5_109 ⟨rfl, rfl, by decide, by decide⟩ (Nat.le_of_ble_eq_true rfl) dX5_comeFrom_99 rfl (fun r7 σ8 => ?_)
  refine aw_cVI (pc := 102) (st := []) (xX5_come (2 * l2) (l3 * (σ.1 5 l2.toNatClampNeg)) r7 σ8) (atM0 _) rfl ckX5_113 ⟨rfl, rfl, by decide, by decide⟩ (Nat.le_of_ble_eq_true rfl) dX5_comeFrom_102 rfl (fun r9 σ10 => ?_)
  refine aw_if_ne (pc := 105) (tgt := 113) dX5_comeFrom_105 (by decide) (fun _ => ?_) (fun _ => ?_)
  · refine aw_iload (pc := 108) dX5_comeFrom_108 rfl ?_
    refine aw_if_eq (pc := 110) (tgt := 117) dX5_comeFrom_110 (by decide) (fun _ => ?_) (fun _ => ?_)
    · refine aw_iconst (pc := 117) (v := 0) dX5_comeFrom_117 (by decide) ?_
      exact aw_wk (wk_same (wk_none (wk_none (wk_none (wk_none (wk_none wk_nil)))))) (xX5_comeFrom_J118 0 σ10)
    exact aw_wk (wk_same (wk_none (wk_none (wk_none (wk_none (wk_none wk_nil)))))) (xX5_comeFrom_J113 σ10)
  exact aw_wk (wk_same (wk_none (wk_none (wk_none (wk_none (wk_none wk_nil)))))) (xX5_comeFrom_J113 σ10)
def fX5_comeFrom_B11 (k11 : Int32 → Int32 → Int32 → ST → Option (Unit × ST)) (l2 : Int32) (l3 : Int32) (l4 : Int32) (σ : ST) : Option (Unit × ST) :=
  if 60 ≤ l4 then (if ib l2 30 = true then cb (fX5_feeOf l2 (4 - l3) σ) (fun r3 σ4 => cb (fX5_come ((2 * l2) + 1) ((4 - l3) * (σ.1 5 l2.toNatClampNeg)) r3 σ4) (fun r5 σ6 => if ib l2 30 = true then if (σ6.1 6 l2.toNatClampNeg) = 1 then (if l3 = 0 then (fX5_comeFrom_J84 l2 l3 r5 σ6) else (fX5_comeFrom_L120 FU r5 σ6)) else (fX5_comeFrom_J84 l2 l3 r5 σ6) else none)) else none) else (if ib l4 60 = true then bindv (stI σ 17 l4.toNatClampNeg 1000000000) (fun σ14 => if ib l4 60 = true then bindv (stI σ14 18 l4.toNatClampNeg 0) (fun σ15 => bindv (l4 + 1) (fun v16 => k11 l2 l3 v16 σ15)) else none) else none)
set_option maxRecDepth 10000 in
theorem xX5_comeFrom_B11 (k11 : Int32 → Int32 → Int32 → ST → Option (Unit × ST)) (hk11 : ∀ (l2 : Int32) (l3 : Int32) (l4 : Int32) (σ : ST), AW wlM yX5_comeFrom cX5_comeFrom 6 none rmX5_comeFrom emV (k11 l2 l3 l4 σ) 11 [some (.inr (some 0)), none, some (.inl l2), some (.inl l3), some (.inl l4), none] [] σ) (l2 : Int32) (l3 : Int32) (l4 : Int32) (σ : ST) : AW wlM yX5_comeFrom cX5_comeFrom 6 none rmX5_comeFrom emV (fX5_comeFrom_B11 k11 l2 l3 l4 σ) 11 [some (.inr (some 0)), none, some (.inl l2), some (.inl l3), some (.inl l4), none] [] σ := by
  unfold fX5_comeFrom_B11
  refine aw_iload (pc := 11) dX5_comeFrom_11 rfl ?_
  refine aw_bipush (pc := 13) (v := 60) dX5_comeFrom_13 (by decide) ?_
  refine aw_icmp_ge (pc := 15) (tgt := 41) dX5_comeFrom_15 (by decide) (fun _ => ?_) (fun _ => ?_)
  · refine aw_aload_n (pc := 41) dX5_comeFrom_41 rfl rfl ?_
    refine aw_iconst (pc := 42) (v := 2) dX5_comeFrom_42 (by decide) ?_
    refine aw_iload_n (pc := 43) dX5_comeFrom_43 rfl rfl ?_
    refine aw_imul (pc := 44) dX5_comeFrom_44 ?_
    refine aw_iconst (pc := 45) (v := 1) dX5_comeFrom_45 (by decide) ?_
    refine aw_iadd (pc := 46) dX5_comeFrom_46 ?_
    refine aw_iconst (pc := 47) (v := 4) dX5_comeFrom_47 (by decide) ?_
    refine aw_iload_n (pc := 48) dX5_comeFrom_48 rfl rfl ?_
    refine aw_isub (pc := 49) dX5_comeFrom_49 ?_
    refine aw_aload_n (pc := 50) dX5_comeFrom_50 rfl rfl ?_
    refine aw_get (pc := 51) (v := .inr (some 5)) foX5_22 (atM0 _) rfl dX5_comeFrom_51 ?_
    refine aw_iload_n (pc := 54) dX5_comeFrom_54 rfl rfl ?_
    refine aw_iald' (pc := 55) (atM5 _) dX5_comeFrom_55 ?_
    refine aw_imul (pc := 56) dX5_comeFrom_56 ?_
    refine aw_aload_n (pc := 57) dX5_comeFrom_57 rfl rfl ?_
    refine aw_iload_n (pc := 58) dX5_comeFrom_58 rfl rfl ?_
    refine aw_iconst (pc := 59) (v := 4) dX5_comeFrom_59 (by decide) ?_
    refine aw_iload_n (pc := 60) dX5_comeFrom_60 rfl rfl ?_
    refine aw_isub (pc := 61) dX5_comeFrom_61 ?_
    refine aw_cVI (pc := 62) (st := [.inl ((4 - l3) * (σ.1 5 l2.toNatClampNeg)), .inl ((2 * l2) + 1), .inr (some 0)]) (xX5_feeOf l2 (4 - l3) σ) (atM0 _) rfl ckX5_109 ⟨rfl, rfl, by decide, by decide⟩ (Nat.le_of_ble_eq_true rfl) dX5_comeFrom_62 rfl (fun r3 σ4 => ?_)
    refine aw_cVI (pc := 65) (st := []) (xX5_come ((2 * l2) + 1) ((4 - l3) * (σ.1 5 l2.toNatClampNeg)) r3 σ4) (atM0 _) rfl ckX5_113 ⟨rfl, rfl, by decide, by decide⟩ (Nat.le_of_ble_eq_true rfl) dX5_comeFrom_65 rfl (fun r5 σ6 => ?_)
    refine aw_st (pc := 68) (L' := [some (.inr (some 0)), none, some (.inl l2), some (.inl l3), some (.inl r5), none]) dX5_comeFrom_68 (by decide) rfl ?_
    refine aw_aload_n (pc := 70) dX5_comeFrom_70 rfl rfl ?_
    refine aw_get (pc := 71) (v := .inr (some 6)) foX5_25 (atM0 _) rfl dX5_comeFrom_71 ?_
    refine aw_iload_n (pc := 74) dX5_comeFrom_74 rfl rfl ?_
    refine aw_iald' (pc := 75) (atM6 _) dX5_comeFrom_75 ?_
    refine aw_iconst (pc := 76) (v := 1) dX5_comeFrom_76 (by decide) ?_
    refine aw_icmp_ne (pc := 77) (tgt := 84) dX5_comeFrom_77 (by decide) (fun _ => ?_) (fun _ => ?_)
    · refine aw_iload_n (pc := 80) dX5_comeFrom_80 rfl rfl ?_
      refine aw_if_ne (pc := 81) (tgt := 120) dX5_comeFrom_81 (by decide) (fun _ => ?_) (fun _ => ?_)
      · exact aw_wk (wk_same (wk_none (wk_same (wk_same (wk_same (wk_none wk_nil)))))) (xX5_comeFrom_J84 l2 l3 r5 σ6)
      exact aw_wk (wk_same (wk_none (wk_none (wk_none (wk_same (wk_none wk_nil)))))) (xX5_comeFrom_L120 FU r5 σ6)
    exact aw_wk (wk_same (wk_none (wk_same (wk_same (wk_same (wk_none wk_nil)))))) (xX5_comeFrom_J84 l2 l3 r5 σ6)
  refine aw_aload_n (pc := 18) dX5_comeFrom_18 rfl rfl ?_
  refine aw_get (pc := 19) (v := .inr (some 17)) foX5_66 (atM0 _) rfl dX5_comeFrom_19 ?_
  refine aw_iload (pc := 22) dX5_comeFrom_22 rfl ?_
  refine aw_ldc (pc := 24) lcX5_108 dX5_comeFrom_24 ?_
  refine aw_iastB (pc := 26) (atM17 _) (stM17 _ _ _) dX5_comeFrom_26 (fun σ14 => ?_)
  refine aw_aload_n (pc := 27) dX5_comeFrom_27 rfl rfl ?_
  refine aw_get (pc := 28) (v := .inr (some 18)) foX5_69 (atM0 _) rfl dX5_comeFrom_28 ?_
  refine aw_iload (pc := 31) dX5_comeFrom_31 rfl ?_
  refine aw_iconst (pc := 33) (v := 0) dX5_comeFrom_33 (by decide) ?_
  refine aw_iastB (pc := 34) (atM18 _) (stM18 _ _ _) dX5_comeFrom_34 (fun σ15 => ?_)
  refine aw_iincB (pc := 35) (v := 1) (Lf := fun v16 => [some (.inr (some 0)), none, some (.inl l2), some (.inl l3), some (.inl v16), none]) dX5_comeFrom_35 rfl (by decide) (by decide) (fun _ => rfl) (fun v16 => ?_)
  refine aw_goto (pc := 38) (tgt := 11) dX5_comeFrom_38 (by decide) ?_
  exact aw_wk (wk_same (wk_none (wk_same (wk_same (wk_same (wk_none wk_nil)))))) (hk11 l2 l3 v16 σ15)
def fX5_comeFrom_L11 (n : Nat) (l2 : Int32) (l3 : Int32) (l4 : Int32) (σ : ST) : Option (Unit × ST) := loopN (α := Int32 × Int32 × Int32 × ST) (fun k a => fX5_comeFrom_B11 (fun l2 l3 l4 σ => k (l2, l3, l4, σ)) a.1 a.2.1 a.2.2.1 a.2.2.2) n (l2, l3, l4, σ)
theorem xX5_comeFrom_L11 (n : Nat) (l2 : Int32) (l3 : Int32) (l4 : Int32) (σ : ST) : AW wlM yX5_comeFrom cX5_comeFrom 6 none rmX5_comeFrom emV (fX5_comeFrom_L11 n l2 l3 l4 σ) 11 [some (.inr (some 0)), none, some (.inl l2), some (.inl l3), some (.inl l4), none] [] σ :=
  aw_loop (α := Int32 × Int32 × Int32 × ST) (Lf := fun a => [some (.inr (some 0)), none, some (.inl (a.1)), some (.inl (a.2.1)), some (.inl (a.2.2.1)), none]) (sf := fun a => a.2.2.2) (fun k hk a => by
    obtain ⟨l2, l3, l4, σ⟩ := a
    exact xX5_comeFrom_B11 (fun l2 l3 l4 σ => k (l2, l3, l4, σ)) (fun l2 l3 l4 σ => hk (l2, l3, l4, σ)) l2 l3 l4 σ) n (l2, l3, l4, σ)
def fX5_comeFrom (a1 : Int32) (σ : ST) : Option (Unit × ST) :=
  bindv (a1 / 5) (fun v1 => bindv (a1 - a1 / 5 * 5) (fun v2 => fX5_comeFrom_L11 FU v1 v2 0 σ))
set_option maxRecDepth 10000 in
theorem xX5_comeFrom (a1 : Int32) (σ : ST) : MS wlM yX5_comeFrom cX5_comeFrom 6 none rmX5_comeFrom emV [.inr (some 0), .inl a1] σ (fX5_comeFrom a1 σ) := by
  refine MS.of (by decide +kernel) (Nat.le_of_ble_eq_true rfl) ?_
  show AW wlM yX5_comeFrom cX5_comeFrom 6 none rmX5_comeFrom emV (fX5_comeFrom a1 σ) 0 [some (.inr (some 0)), some (.inl a1), none, none, none, none] [] σ
  unfold fX5_comeFrom
  refine aw_iload_n (pc := 0) dX5_comeFrom_0 rfl rfl ?_
  refine aw_iconst (pc := 1) (v := 5) dX5_comeFrom_1 (by decide) ?_
  refine aw_idiv (pc := 2) dX5_comeFrom_2 (by decide) ?_
  refine aw_stnB (pc := 3) (Lf := fun v1 => [some (.inr (some 0)), some (.inl a1), some (.inl v1), none, none, none]) dX5_comeFrom_3 rfl (by decide) (fun _ => rfl) (fun v1 => ?_)
  refine aw_iload_n (pc := 4) dX5_comeFrom_4 rfl rfl ?_
  refine aw_iconst (pc := 5) (v := 5) dX5_comeFrom_5 (by decide) ?_
  refine aw_irem (pc := 6) dX5_comeFrom_6 (by decide) ?_
  refine aw_stnB (pc := 7) (Lf := fun v2 => [some (.inr (some 0)), some (.inl a1), some (.inl v1), some (.inl v2), none, none]) dX5_comeFrom_7 rfl (by decide) (fun _ => rfl) (fun v2 => ?_)
  refine aw_iconst (pc := 8) (v := 0) dX5_comeFrom_8 (by decide) ?_
  refine aw_st (pc := 9) (L' := [some (.inr (some 0)), some (.inl a1), some (.inl v1), some (.inl v2), some (.inl 0), none]) dX5_comeFrom_9 (by decide) rfl ?_
  exact aw_wk (wk_same (wk_none (wk_same (wk_same (wk_same (wk_none wk_nil)))))) (xX5_comeFrom_L11 FU v1 v2 0 σ)
abbrev rmX5_offer : Room := { frames := 0, cells := 0, slots := 0, locals := 0 }
def fX5_offer_J30 (l1 : Int32) (l2 : Int32) (l3 : Int32) (σ : ST) : Option (Unit × ST) :=
  if ib l1 22500 = true then bindv (stI σ 15 l1.toNatClampNeg l2) (fun σ1 => if ib l1 22500 = true then bindv (stI σ1 16 l1.toNatClampNeg l3) (fun σ2 => some ((), σ2)) else none) else none
set_option maxRecDepth 10000 in
theorem xX5_offer_J30 (l1 : Int32) (l2 : Int32) (l3 : Int32) (σ : ST) : AW wlM yX5_offer cX5_offer 4 none rmX5_offer emV (fX5_offer_J30 l1 l2 l3 σ) 30 [some (.inr (some 0)), some (.inl l1), some (.inl l2), some (.inl l3)] [] σ := by
  unfold fX5_offer_J30
  refine aw_aload_n (pc := 30) dX5_offer_30 rfl rfl ?_
  refine aw_get (pc := 31) (v := .inr (some 15)) foX5_60 (atM0 _) rfl dX5_offer_31 ?_
  refine aw_iload_n (pc := 34) dX5_offer_34 rfl rfl ?_
  refine aw_iload_n (pc := 35) dX5_offer_35 rfl rfl ?_
  refine aw_iastB (pc := 36) (atM15 _) (stM15 _ _ _) dX5_offer_36 (fun σ1 => ?_)
  refine aw_aload_n (pc := 37) dX5_offer_37 rfl rfl ?_
  refine aw_get (pc := 38) (v := .inr (some 16)) foX5_63 (atM0 _) rfl dX5_offer_38 ?_
  refine aw_iload_n (pc := 41) dX5_offer_41 rfl rfl ?_
  refine aw_iload_n (pc := 42) dX5_offer_42 rfl rfl ?_
  refine aw_iastB (pc := 43) (atM16 _) (stM16 _ _ _) dX5_offer_43 (fun σ2 => ?_)
  exact aw_ret_v (pc := 44) rfl rfl dX5_offer_44
def fX5_offer (a1 : Int32) (a2 : Int32) (a3 : Int32) (σ : ST) : Option (Unit × ST) :=
  if ib a1 22500 = true then if a2 < (σ.1 15 a1.toNatClampNeg) then (fX5_offer_J30 a1 a2 a3 σ) else (if ib a1 22500 = true then if a2 = (σ.1 15 a1.toNatClampNeg) then (if ib a1 22500 = true then if (σ.1 16 a1.toNatClampNeg) ≤ a3 then (some ((), σ)) else (fX5_offer_J30 a1 a2 a3 σ) else none) else (some ((), σ)) else none) else none
set_option maxRecDepth 10000 in
theorem xX5_offer (a1 : Int32) (a2 : Int32) (a3 : Int32) (σ : ST) : MS wlM yX5_offer cX5_offer 4 none rmX5_offer emV [.inr (some 0), .inl a1, .inl a2, .inl a3] σ (fX5_offer a1 a2 a3 σ) := by
  refine MS.of (by decide +kernel) (Nat.le_of_ble_eq_true rfl) ?_
  show AW wlM yX5_offer cX5_offer 4 none rmX5_offer emV (fX5_offer a1 a2 a3 σ) 0 [some (.inr (some 0)), some (.inl a1), some (.inl a2), some (.inl a3)] [] σ
  unfold fX5_offer
  refine aw_iload_n (pc := 0) dX5_offer_0 rfl rfl ?_
  refine aw_aload_n (pc := 1) dX5_offer_1 rfl rfl ?_
  refine aw_get (pc := 2) (v := .inr (some 15)) foX5_60 (atM0 _) rfl dX5_offer_2 ?_
  refine aw_iload_n (pc := 5) dX5_offer_5 rfl rfl ?_
  refine aw_iald' (pc := 6) (atM15 _) dX5_offer_6 ?_
  refine aw_icmp_lt (pc := 7) (tgt := 30) dX5_offer_7 (by decide) (fun _ => ?_) (fun _ => ?_)
  · exact aw_wk (wk_same (wk_same (wk_same (wk_same wk_nil)))) (xX5_offer_J30 a1 a2 a3 σ)
  refine aw_iload_n (pc := 10) dX5_offer_10 rfl rfl ?_
  refine aw_aload_n (pc := 11) dX5_offer_11 rfl rfl ?_
  refine aw_get (pc := 12) (v := .inr (some 15)) foX5_60 (atM0 _) rfl dX5_offer_12 ?_
  refine aw_iload_n (pc := 15) dX5_offer_15 rfl rfl ?_
  refine aw_iald' (pc := 16) (atM15 _) dX5_offer_16 ?_
  refine aw_icmp_ne (pc := 17) (tgt := 44) dX5_offer_17 (by decide) (fun _ => ?_) (fun _ => ?_)
  · refine aw_iload_n (pc := 20) dX5_offer_20 rfl rfl ?_
    refine aw_aload_n (pc := 21) dX5_offer_21 rfl rfl ?_
    refine aw_get (pc := 22) (v := .inr (some 16)) foX5_63 (atM0 _) rfl dX5_offer_22 ?_
    refine aw_iload_n (pc := 25) dX5_offer_25 rfl rfl ?_
    refine aw_iald' (pc := 26) (atM16 _) dX5_offer_26 ?_
    refine aw_icmp_ge (pc := 27) (tgt := 44) dX5_offer_27 (by decide) (fun _ => ?_) (fun _ => ?_)
    · exact aw_ret_v (pc := 44) rfl rfl dX5_offer_44
    exact aw_wk (wk_same (wk_same (wk_same (wk_same wk_nil)))) (xX5_offer_J30 a1 a2 a3 σ)
  exact aw_ret_v (pc := 44) rfl rfl dX5_offer_44
abbrev rmX5_reach : Room := { frames := 1, cells := 0, slots := 0, locals := 23 }
def fX5_reach_J287 (k121 : Int32 → Int32 → Int32 → Int32 → ST → Option (Unit × ST)) (l3 : Int32) (l4 : Int32) (l5 : Int32) (l7 : Int32) (σ : ST) : Option (Unit × ST) :=
  bindv (l7 + 1) (fun v12 => k121 l3 l4 l5 v12 σ)
set_option maxRecDepth 10000 in
theorem xX5_reach_J287 (k121 : Int32 → Int32 → Int32 → Int32 → ST → Option (Unit × ST)) (hk121 : ∀ (l3 : Int32) (l4 : Int32) (l5 : Int32) (l7 : Int32) (σ : ST), AW wlM yX5_reach cX5_reach 8 none rmX5_reach emV (k121 l3 l4 l5 l7 σ) 121 [some (.inr (some 0)), none, none, some (.inl l3), some (.inl l4), some (.inl l5), none, some (.inl l7)] [] σ) (l3 : Int32) (l4 : Int32) (l5 : Int32) (l7 : Int32) (σ : ST) : AW wlM yX5_reach cX5_reach 8 none rmX5_reach emV (fX5_reach_J287 k121 l3 l4 l5 l7 σ) 287 [some (.inr (some 0)), none, none, some (.inl l3), some (.inl l4), some (.inl l5), none, some (.inl l7)] [] σ := by
  unfold fX5_reach_J287
  refine aw_iincB (pc := 287) (v := 1) (Lf := fun v12 => [some (.inr (some 0)), none, none, some (.inl l3), some (.inl l4), some (.inl l5), none, some (.inl v12)]) dX5_reach_287 rfl (by decide) (by decide) (fun _ => rfl) (fun v12 => ?_)
  refine aw_goto (pc := 290) (tgt := 121) dX5_reach_290 (by decide) ?_
  exact aw_wk (wk_same (wk_none (wk_none (wk_same (wk_same (wk_same (wk_none (wk_same wk_nil)))))))) (hk121 l3 l4 l5 v12 σ)
def fX5_reach_J217 (k121 : Int32 → Int32 → Int32 → Int32 → ST → Option (Unit × ST)) (l3 : Int32) (l4 : Int32) (l5 : Int32) (l7 : Int32) (σ : ST) : Option (Unit × ST) :=
  if ib l4 30 = true then cb (fX5_knotOf l7 σ) (fun r19 σ20 => if (σ.1 4 l4.toNatClampNeg) = r19 then (if ib l4 30 = true then if (σ20.1 6 l4.toNatClampNeg) = 1 then (fX5_reach_J287 k121 l3 l4 l5 l7 σ20) else (if ib l7 60 = true then if ib l4 30 = true then if ib l7 60 = true then cb (fX5_feeOf l4 (4 - l5) σ20) (fun r21 σ22 => cb (fX5_offer l3 ((σ20.1 17 l7.toNatClampNeg) + ((4 - l5) * (σ20.1 5 l4.toNatClampNeg))) ((σ20.1 18 l7.toNatClampNeg) + r21) σ22) (fun r23 σ24 => fX5_reach_J287 k121 l3 l4 l5 l7 σ24)) else none else none else none) else none) else (fX5_reach_J287 k121 l3 l4 l5 l7 σ20)) else none
set_option maxRecDepth 10000 in
theorem xX5_reach_J217 (k121 : Int32 → Int32 → Int32 → Int32 → ST → Option (Unit × ST)) (hk121 : ∀ (l3 : Int32) (l4 : Int32) (l5 : Int32) (l7 : Int32) (σ : ST), AW wlM yX5_reach cX5_reach 8 none rmX5_reach emV (k121 l3 l4 l5 l7 σ) 121 [some (.inr (some 0)), none, none, some (.inl l3), some (.inl l4), some (.inl l5), none, some (.inl l7)] [] σ) (l3 : Int32) (l4 : Int32) (l5 : Int32) (l7 : Int32) (σ : ST) : AW wlM yX5_reach cX5_reach 8 none rmX5_reach emV (fX5_reach_J217 k121 l3 l4 l5 l7 σ) 217 [some (.inr (some 0)), none, none, some (.inl l3), some (.inl l4), some (.inl l5), none, some (.inl l7)] [] σ := by
  unfold fX5_reach_J217
  refine aw_aload_n (pc := 217) dX5_reach_217 rfl rfl ?_
  refine aw_get (pc := 218) (v := .inr (some 4)) foX5_19 (atM0 _) rfl dX5_reach_218 ?_
  refine aw_iload (pc := 221) dX5_reach_221 rfl ?_
  refine aw_iald' (pc := 223) (atM4 _) dX5_reach_223 ?_
  refine aw_aload_n (pc := 224) dX5_reach_224 rfl rfl ?_
  refine aw_iload (pc := 225) dX5_reach_225 rfl ?_
  refine aw_cVI (pc := 227) (st := [.inl (σ.1 4 l4.toNatClampNeg)]) (xX5_knotOf l7 σ) (atM0 _) rfl ckX5_119 ⟨rfl, rfl, by decide, by decide⟩ (Nat.le_of_ble_eq_true rfl) dX5_reach_227 rfl (fun r19 σ20 => ?_)
  refine aw_icmp_ne (pc := 230) (tgt := 287) dX5_reach_230 (by decide) (fun _ => ?_) (fun _ => ?_)
  · refine aw_aload_n (pc := 233) dX5_reach_233 rfl rfl ?_
    refine aw_get (pc := 234) (v := .inr (some 6)) foX5_25 (atM0 _) rfl dX5_reach_234 ?_
    refine aw_iload (pc := 237) dX5_reach_237 rfl ?_
    refine aw_iald' (pc := 239) (atM6 _) dX5_reach_239 ?_
    refine aw_iconst (pc := 240) (v := 1) dX5_reach_240 (by decide) ?_
    refine aw_icmp_eq (pc := 241) (tgt := 287) dX5_reach_241 (by decide) (fun _ => ?_) (fun _ => ?_)
    · exact aw_wk (wk_same (wk_none (wk_none (wk_same (wk_same (wk_same (wk_none (wk_same wk_nil)))))))) (xX5_reach_J287 k121 hk121 l3 l4 l5 l7 σ20)
    refine aw_aload_n (pc := 244) dX5_reach_244 rfl rfl ?_
    refine aw_iload_n (pc := 245) dX5_reach_245 rfl rfl ?_
    refine aw_aload_n (pc := 246) dX5_reach_246 rfl rfl ?_
    refine aw_get (pc := 247) (v := .inr (some 17)) foX5_66 (atM0 _) rfl dX5_reach_247 ?_
    refine aw_iload (pc := 250) dX5_reach_250 rfl ?_
    refine aw_iald' (pc := 252) (atM17 _) dX5_reach_252 ?_
    refine aw_iconst (pc := 253) (v := 4) dX5_reach_253 (by decide) ?_
    refine aw_iload (pc := 254) dX5_reach_254 rfl ?_
    refine aw_isub (pc := 256) dX5_reach_256 ?_
    refine aw_aload_n (pc := 257) dX5_reach_257 rfl rfl ?_
    refine aw_get (pc := 258) (v := .inr (some 5)) foX5_22 (atM0 _) rfl dX5_reach_258 ?_
    refine aw_iload (pc := 261) dX5_reach_261 rfl ?_
    refine aw_iald' (pc := 263) (atM5 _) dX5_reach_263 ?_
    refine aw_imul (pc := 264) dX5_reach_264 ?_
    refine aw_iadd (pc := 265) dX5_reach_265 ?_
    refine aw_aload_n (pc := 266) dX5_reach_266 rfl rfl ?_
    refine aw_get (pc := 267) (v := .inr (some 18)) foX5_69 (atM0 _) rfl dX5_reach_267 ?_
    refine aw_iload (pc := 270) dX5_reach_270 rfl ?_
    refine aw_iald' (pc := 272) (atM18 _) dX5_reach_272 ?_
    refine aw_aload_n (pc := 273) dX5_reach_273 rfl rfl ?_
    refine aw_iload (pc := 274) dX5_reach_274 rfl ?_
    refine aw_iconst (pc := 276) (v := 4) dX5_reach_276 (by decide) ?_
    refine aw_iload (pc := 277) dX5_reach_277 rfl ?_
    refine aw_isub (pc := 279) dX5_reach_279 ?_
    refine aw_cVI (pc := 280) (st := [.inl (σ20.1 18 l7.toNatClampNeg), .inl ((σ20.1 17 l7.toNatClampNeg) + ((4 - l5) * (σ20.1 5 l4.toNatClampNeg))), .inl l3, .inr (some 0)]) (xX5_feeOf l4 (4 - l5) σ20) (atM0 _) rfl ckX5_109 ⟨rfl, rfl, by decide, by decide⟩ (Nat.le_of_ble_eq_true rfl) dX5_reach_280 rfl (fun r21 σ22 => ?_)
    refine aw_iadd (pc := 283) dX5_reach_283 ?_
    refine aw_cVV (pc := 284) (st := []) (xX5_offer l3 ((σ20.1 17 l7.toNatClampNeg) + ((4 - l5) * (σ20.1 5 l4.toNatClampNeg))) ((σ20.1 18 l7.toNatClampNeg) + r21) σ22) (atM0 _) rfl ckX5_123 ⟨rfl, rfl, by decide, by decide⟩ (Nat.le_of_ble_eq_true rfl) dX5_reach_284 rfl (fun r23 σ24 => ?_)
    exact aw_wk (wk_same (wk_none (wk_none (wk_same (wk_same (wk_same (wk_none (wk_same wk_nil)))))))) (xX5_reach_J287 k121 hk121 l3 l4 l5 l7 σ24)
  exact aw_wk (wk_same (wk_none (wk_none (wk_same (wk_same (wk_same (wk_none (wk_same wk_nil)))))))) (xX5_reach_J287 k121 hk121 l3 l4 l5 l7 σ20)
def fX5_reach_B121 (k121 : Int32 → Int32 → Int32 → Int32 → ST → Option (Unit × ST)) (l3 : Int32) (l4 : Int32) (l5 : Int32) (l7 : Int32) (σ : ST) : Option (Unit × ST) :=
  if (2 * (σ.1 0 8)) ≤ l7 then (some ((), σ)) else (if ib l7 60 = true then if 1000000000 ≤ (σ.1 17 l7.toNatClampNeg) then (fX5_reach_J287 k121 l3 l4 l5 l7 σ) else (if ib ((30 * (l7 / 2)) + l4) 900 = true then if (σ.1 8 ((30 * (l7 / 2)) + l4).toNatClampNeg) = 0 then (if ib l4 30 = true then cb (fX5_knotOf l7 σ) (fun r13 σ14 => if (σ.1 3 l4.toNatClampNeg) = r13 then (if ib l7 60 = true then if ib l4 30 = true then if ib l7 60 = true then cb (fX5_feeOf l4 l5 σ14) (fun r15 σ16 => cb (fX5_offer l3 ((σ14.1 17 l7.toNatClampNeg) + (l5 * (σ14.1 5 l4.toNatClampNeg))) ((σ14.1 18 l7.toNatClampNeg) + r15) σ16) (fun r17 σ18 => fX5_reach_J217 k121 l3 l4 l5 l7 σ18)) else none else none else none) else (fX5_reach_J217 k121 l3 l4 l5 l7 σ14)) else none) else (fX5_reach_J287 k121 l3 l4 l5 l7 σ) else none) else none)
set_option maxRecDepth 10000 in
theorem xX5_reach_B121 (k121 : Int32 → Int32 → Int32 → Int32 → ST → Option (Unit × ST)) (hk121 : ∀ (l3 : Int32) (l4 : Int32) (l5 : Int32) (l7 : Int32) (σ : ST), AW wlM yX5_reach cX5_reach 8 none rmX5_reach emV (k121 l3 l4 l5 l7 σ) 121 [some (.inr (some 0)), none, none, some (.inl l3), some (.inl l4), some (.inl l5), none, some (.inl l7)] [] σ) (l3 : Int32) (l4 : Int32) (l5 : Int32) (l7 : Int32) (σ : ST) : AW wlM yX5_reach cX5_reach 8 none rmX5_reach emV (fX5_reach_B121 k121 l3 l4 l5 l7 σ) 121 [some (.inr (some 0)), none, none, some (.inl l3), some (.inl l4), some (.inl l5), none, some (.inl l7)] [] σ := by
  unfold fX5_reach_B121
  refine aw_iload (pc := 121) dX5_reach_121 rfl ?_
  refine aw_iconst (pc := 123) (v := 2) dX5_reach_123 (by decide) ?_
  refine aw_aload_n (pc := 124) dX5_reach_124 rfl rfl ?_
  refine aw_get (pc := 125) (v := .inl (σ.1 0 8)) foX5_94 (atM0 _) rfl dX5_reach_125 ?_
  refine aw_imul (pc := 128) dX5_reach_128 ?_
  refine aw_icmp_ge (pc := 129) (tgt := 293) dX5_reach_129 (by decide) (fun _ => ?_) (fun _ => ?_)
  · exact aw_ret_v (pc := 293) rfl rfl dX5_reach_293
  refine aw_aload_n (pc := 132) dX5_reach_132 rfl rfl ?_
  refine aw_get (pc := 133) (v := .inr (some 17)) foX5_66 (atM0 _) rfl dX5_reach_133 ?_
  refine aw_iload (pc := 136) dX5_reach_136 rfl ?_
  refine aw_iald' (pc := 138) (atM17 _) dX5_reach_138 ?_
  refine aw_ldc (pc := 139) lcX5_108 dX5_reach_139 ?_
  refine aw_icmp_ge (pc := 141) (tgt := 287) dX5_reach_141 (by decide) (fun _ => ?_) (fun _ => ?_)
  · exact aw_wk (wk_same (wk_none (wk_none (wk_same (wk_same (wk_same (wk_none (wk_same wk_nil)))))))) (xX5_reach_J287 k121 hk121 l3 l4 l5 l7 σ)
  refine aw_aload_n (pc := 144) dX5_reach_144 rfl rfl ?_
  refine aw_get (pc := 145) (v := .inr (some 8)) foX5_31 (atM0 _) rfl dX5_reach_145 ?_
  refine aw_bipush (pc := 148) (v := 30) dX5_reach_148 (by decide) ?_
  refine aw_iload (pc := 150) dX5_reach_150 rfl ?_
  refine aw_iconst (pc := 152) (v := 2) dX5_reach_152 (by decide) ?_
  refine aw_idiv (pc := 153) dX5_reach_153 (by decide) ?_
  refine aw_imul (pc := 154) dX5_reach_154 ?_
  refine aw_iload (pc := 155) dX5_reach_155 rfl ?_
  refine aw_iadd (pc := 157) dX5_reach_157 ?_
  refine aw_bald' (pc := 158) (atM8 _) dX5_reach_158 ?_
  refine aw_if_ne (pc := 159) (tgt := 287) dX5_reach_159 (by decide) (fun _ => ?_) (fun _ => ?_)
  · refine aw_aload_n (pc := 162) dX5_reach_162 rfl rfl ?_
    refine aw_get (pc := 163) (v := .inr (some 3)) foX5_16 (atM0 _) rfl dX5_reach_163 ?_
    refine aw_iload (pc := 166) dX5_reach_166 rfl ?_
    refine aw_iald' (pc := 168) (atM3 _) dX5_reach_168 ?_
    refine aw_aload_n (pc := 169) dX5_reach_169 rfl rfl ?_
    refine aw_iload (pc := 170) dX5_reach_170 rfl ?_
    refine aw_cVI (pc := 172) (st := [.inl (σ.1 3 l4.toNatClampNeg)]) (xX5_knotOf l7 σ) (atM0 _) rfl ckX5_119 ⟨rfl, rfl, by decide, by decide⟩ (Nat.le_of_ble_eq_true rfl) dX5_reach_172 rfl (fun r13 σ14 => ?_)
    refine aw_icmp_ne (pc := 175) (tgt := 217) dX5_reach_175 (by decide) (fun _ => ?_) (fun _ => ?_)
    · refine aw_aload_n (pc := 178) dX5_reach_178 rfl rfl ?_
      refine aw_iload_n (pc := 179) dX5_reach_179 rfl rfl ?_
      refine aw_aload_n (pc := 180) dX5_reach_180 rfl rfl ?_
      refine aw_get (pc := 181) (v := .inr (some 17)) foX5_66 (atM0 _) rfl dX5_reach_181 ?_
      refine aw_iload (pc := 184) dX5_reach_184 rfl ?_
      refine aw_iald' (pc := 186) (atM17 _) dX5_reach_186 ?_
      refine aw_iload (pc := 187) dX5_reach_187 rfl ?_
      refine aw_aload_n (pc := 189) dX5_reach_189 rfl rfl ?_
      refine aw_get (pc := 190) (v := .inr (some 5)) foX5_22 (atM0 _) rfl dX5_reach_190 ?_
      refine aw_iload (pc := 193) dX5_reach_193 rfl ?_
      refine aw_iald' (pc := 195) (atM5 _) dX5_reach_195 ?_
      refine aw_imul (pc := 196) dX5_reach_196 ?_
      refine aw_iadd (pc := 197) dX5_reach_197 ?_
      refine aw_aload_n (pc := 198) dX5_reach_198 rfl rfl ?_
      refine aw_get (pc := 199) (v := .inr (some 18)) foX5_69 (atM0 _) rfl dX5_reach_199 ?_
      refine aw_iload (pc := 202) dX5_reach_202 rfl ?_
      refine aw_iald' (pc := 204) (atM18 _) dX5_reach_204 ?_
      refine aw_aload_n (pc := 205) dX5_reach_205 rfl rfl ?_
      refine aw_iload (pc := 206) dX5_reach_206 rfl ?_
      refine aw_iload (pc := 208) dX5_reach_208 rfl ?_
      refine aw_cVI (pc := 210) (st := [.inl (σ14.1 18 l7.toNatClampNeg), .inl ((σ14.1 17 l7.toNatClampNeg) + (l5 * (σ14.1 5 l4.toNatClampNeg))), .inl l3, .inr (some 0)]) (xX5_feeOf l4 l5 σ14) (atM0 _) rfl ckX5_109 ⟨rfl, rfl, by decide, by decide⟩ (Nat.le_of_ble_eq_true rfl) dX5_reach_210 rfl (fun r15 σ16 => ?_)
      refine aw_iadd (pc := 213) dX5_reach_213 ?_
      refine aw_cVV (pc := 214) (st := []) (xX5_offer l3 ((σ14.1 17 l7.toNatClampNeg) + (l5 * (σ14.1 5 l4.toNatClampNeg))) ((σ14.1 18 l7.toNatClampNeg) + r15) σ16) (atM0 _) rfl ckX5_123 ⟨rfl, rfl, by decide, by decide⟩ (Nat.le_of_ble_eq_true rfl) dX5_reach_214 rfl (fun r17 σ18 => ?_)
      exact aw_wk (wk_same (wk_none (wk_none (wk_same (wk_same (wk_same (wk_none (wk_same wk_nil)))))))) (xX5_reach_J217 k121 hk121 l3 l4 l5 l7 σ18)
    exact aw_wk (wk_same (wk_none (wk_none (wk_same (wk_same (wk_same (wk_none (wk_same wk_nil)))))))) (xX5_reach_J217 k121 hk121 l3 l4 l5 l7 σ14)
  exact aw_wk (wk_same (wk_none (wk_none (wk_same (wk_same (wk_same (wk_none (wk_same wk_nil)))))))) (xX5_reach_J287 k121 hk121 l3 l4 l5 l7 σ)
def fX5_reach_L121 (n : Nat) (l3 : Int32) (l4 : Int32) (l5 : Int32) (l7 : Int32) (σ : ST) : Option (Unit × ST) := loopN (α := Int32 × Int32 × Int32 × Int32 × ST) (fun k a => fX5_reach_B121 (fun l3 l4 l5 l7 σ => k (l3, l4, l5, l7, σ)) a.1 a.2.1 a.2.2.1 a.2.2.2.1 a.2.2.2.2) n (l3, l4, l5, l7, σ)
theorem xX5_reach_L121 (n : Nat) (l3 : Int32) (l4 : Int32) (l5 : Int32) (l7 : Int32) (σ : ST) : AW wlM yX5_reach cX5_reach 8 none rmX5_reach emV (fX5_reach_L121 n l3 l4 l5 l7 σ) 121 [some (.inr (some 0)), none, none, some (.inl l3), some (.inl l4), some (.inl l5), none, some (.inl l7)] [] σ :=
  aw_loop (α := Int32 × Int32 × Int32 × Int32 × ST) (Lf := fun a => [some (.inr (some 0)), none, none, some (.inl (a.1)), some (.inl (a.2.1)), some (.inl (a.2.2.1)), none, some (.inl (a.2.2.2.1))]) (sf := fun a => a.2.2.2.2) (fun k hk a => by
    obtain ⟨l3, l4, l5, l7, σ⟩ := a
    exact xX5_reach_B121 (fun l3 l4 l5 l7 σ => k (l3, l4, l5, l7, σ)) (fun l3 l4 l5 l7 σ => hk (l3, l4, l5, l7, σ)) l3 l4 l5 l7 σ) n (l3, l4, l5, l7, σ)
def fX5_reach_J118 (l3 : Int32) (l4 : Int32) (l5 : Int32) (σ : ST) : Option (Unit × ST) :=
  fX5_reach_L121 FU l3 l4 l5 0 σ
set_option maxRecDepth 10000 in
theorem xX5_reach_J118 (l3 : Int32) (l4 : Int32) (l5 : Int32) (σ : ST) : AW wlM yX5_reach cX5_reach 8 none rmX5_reach emV (fX5_reach_J118 l3 l4 l5 σ) 118 [some (.inr (some 0)), none, none, some (.inl l3), some (.inl l4), some (.inl l5), none, none] [] σ := by
  unfold fX5_reach_J118
  refine aw_iconst (pc := 118) (v := 0) dX5_reach_118 (by decide) ?_
  refine aw_st (pc := 119) (L' := [some (.inr (some 0)), none, none, some (.inl l3), some (.inl l4), some (.inl l5), none, some (.inl 0)]) dX5_reach_119 (by decide) rfl ?_
  exact aw_wk (wk_same (wk_none (wk_none (wk_same (wk_same (wk_same (wk_none (wk_same wk_nil)))))))) (xX5_reach_L121 FU l3 l4 l5 0 σ)
def fX5_reach_J93 (l3 : Int32) (l4 : Int32) (l5 : Int32) (s0 : Int32) (σ : ST) : Option (Unit × ST) :=
  if ib l4 30 = true then bindv (s0 * (σ.1 5 l4.toNatClampNeg)) (fun v7 => cb (fX5_feeOf l4 v7 σ) (fun r8 σ9 => cb (fX5_offer l3 v7 r8 σ9) (fun r10 σ11 => fX5_reach_J118 l3 l4 l5 σ11))) else none
set_option maxRecDepth 10000 in
theorem xX5_reach_J93 (l3 : Int32) (l4 : Int32) (l5 : Int32) (s0 : Int32) (σ : ST) : AW wlM yX5_reach cX5_reach 8 none rmX5_reach emV (fX5_reach_J93 l3 l4 l5 s0 σ) 93 [some (.inr (some 0)), none, none, some (.inl l3), some (.inl l4), some (.inl l5), none, none] [.inl s0] σ := by
  unfold fX5_reach_J93
  refine aw_aload_n (pc := 93) dX5_reach_93 rfl rfl ?_
  refine aw_get (pc := 94) (v := .inr (some 5)) foX5_22 (atM0 _) rfl dX5_reach_94 ?_
  refine aw_iload (pc := 97) dX5_reach_97 rfl ?_
  refine aw_iald' (pc := 99) (atM5 _) dX5_reach_99 ?_
  refine aw_imul (pc := 100) dX5_reach_100 ?_
  refine aw_stB (pc := 101) (Lf := fun v7 => [some (.inr (some 0)), none, none, some (.inl l3), some (.inl l4), some (.inl l5), none, some (.inl v7)]) dX5_reach_101 (by decide) (fun _ => rfl) (fun v7 => ?_)
  refine aw_aload_n (pc := 103) dX5_reach_103 rfl rfl ?_
  refine aw_iload_n (pc := 104) dX5_reach_104 rfl rfl ?_
  refine aw_iload (pc := 105) dX5_reach_105 rfl ?_
  refine aw_aload_n (pc := 107) dX5_reach_107 rfl rfl ?_
  refine aw_iload (pc := 108) dX5_reach_108 rfl ?_
  refine aw_iload (pc := 110) dX5_reach_110 rfl ?_
  refine aw_cVI (pc := 112) (st := [.inl v7, .inl l3, .inr (some 0)]) (xX5_feeOf l4 v7 σ) (atM0 _) rfl ckX5_109 ⟨rfl, rfl, by decide, by decide⟩ (Nat.le_of_ble_eq_true rfl) dX5_reach_112 rfl (fun r8 σ9 => ?_)
  refine aw_cVV (pc := 115) (st := []) (xX5_offer l3 v7 r8 σ9) (atM0 _) rfl ckX5_123 ⟨rfl, rfl, by decide, by decide⟩ (Nat.le_of_ble_eq_true rfl) dX5_reach_115 rfl (fun r10 σ11 => ?_)
  exact aw_wk (wk_same (wk_none (wk_none (wk_same (wk_same (wk_same (wk_none (wk_none wk_nil)))))))) (xX5_reach_J118 l3 l4 l5 σ11)
def fX5_reach_J80 (l3 : Int32) (l4 : Int32) (l5 : Int32) (l6 : Int32) (σ : ST) : Option (Unit × ST) :=
  if 0 ≤ l6 then (fX5_reach_J93 l3 l4 l5 l6 σ) else (fX5_reach_J93 l3 l4 l5 (-l6) σ)
set_option maxRecDepth 10000 in
theorem xX5_reach_J80 (l3 : Int32) (l4 : Int32) (l5 : Int32) (l6 : Int32) (σ : ST) : AW wlM yX5_reach cX5_reach 8 none rmX5_reach emV (fX5_reach_J80 l3 l4 l5 l6 σ) 80 [some (.inr (some 0)), none, none, some (.inl l3), some (.inl l4), some (.inl l5), some (.inl l6), none] [] σ := by
  unfold fX5_reach_J80
  refine aw_iload (pc := 80) dX5_reach_80 rfl ?_
  refine aw_if_ge (pc := 82) (tgt := 91) dX5_reach_82 (by decide) (fun _ => ?_) (fun _ => ?_)
  · refine aw_iload (pc := 91) dX5_reach_91 rfl ?_
    exact aw_wk (wk_same (wk_none (wk_none (wk_same (wk_same (wk_same (wk_none (wk_none wk_nil)))))))) (xX5_reach_J93 l3 l4 l5 l6 σ)
  refine aw_iload (pc := 85) dX5_reach_85 rfl ?_
  refine aw_ineg (pc := 87) dX5_reach_87 ?_
  refine aw_goto (pc := 88) (tgt := 93) dX5_reach_88 (by decide) ?_
  exact aw_wk (wk_same (wk_none (wk_none (wk_same (wk_same (wk_same (wk_none (wk_none wk_nil)))))))) (xX5_reach_J93 l3 l4 l5 (-l6) σ)
def fX5_reach_J34 (l1 : Int32) (l2 : Int32) (l3 : Int32) (l4 : Int32) (l5 : Int32) (s0 : Int32) (s1 : Int32) (σ : ST) : Option (Unit × ST) :=
  if ib s1 22500 = true then bindv (stI σ 15 s1.toNatClampNeg s0) (fun σ4 => if ib l3 22500 = true then bindv (stI σ4 16 l3.toNatClampNeg 0) (fun σ5 => if l1 = l2 then (some ((), σ5)) else (bindv (l5 - (l1 - l1 / 5 * 5)) (fun v6 => if (l1 / 5) = l4 then (if 0 < v6 then (fX5_reach_J80 l3 l4 l5 v6 σ5) else (if ib l4 30 = true then if (σ5.1 6 l4.toNatClampNeg) = 1 then (fX5_reach_J118 l3 l4 l5 σ5) else (fX5_reach_J80 l3 l4 l5 v6 σ5) else none)) else (fX5_reach_J118 l3 l4 l5 σ5)))) else none) else none
set_option maxRecDepth 10000 in
theorem xX5_reach_J34 (l1 : Int32) (l2 : Int32) (l3 : Int32) (l4 : Int32) (l5 : Int32) (s0 : Int32) (s1 : Int32) (σ : ST) : AW wlM yX5_reach cX5_reach 8 none rmX5_reach emV (fX5_reach_J34 l1 l2 l3 l4 l5 s0 s1 σ) 34 [some (.inr (some 0)), some (.inl l1), some (.inl l2), some (.inl l3), some (.inl l4), some (.inl l5), none, none] [.inl s0, .inl s1, .inr (some 15)] σ := by
  unfold fX5_reach_J34
  refine aw_iastB (pc := 34) (atM15 _) (stM15 _ _ _) dX5_reach_34 (fun σ4 => ?_)
  refine aw_aload_n (pc := 35) dX5_reach_35 rfl rfl ?_
  refine aw_get (pc := 36) (v := .inr (some 16)) foX5_63 (atM0 _) rfl dX5_reach_36 ?_
  refine aw_iload_n (pc := 39) dX5_reach_39 rfl rfl ?_
  refine aw_iconst (pc := 40) (v := 0) dX5_reach_40 (by decide) ?_
  refine aw_iastB (pc := 41) (atM16 _) (stM16 _ _ _) dX5_reach_41 (fun σ5 => ?_)
  refine aw_iload_n (pc := 42) dX5_reach_42 rfl rfl ?_
  refine aw_iload_n (pc := 43) dX5_reach_43 rfl rfl ?_
  refine aw_icmp_ne (pc := 44) (tgt := 48) dX5_reach_44 (by decide) (fun _ => ?_) (fun _ => ?_)
  · exact aw_ret_v (pc := 47) rfl rfl dX5_reach_47
  refine aw_iload (pc := 48) dX5_reach_48 rfl ?_
  refine aw_iload_n (pc := 50) dX5_reach_50 rfl rfl ?_
  refine aw_iconst (pc := 51) (v := 5) dX5_reach_51 (by decide) ?_
  refine aw_irem (pc := 52) dX5_reach_52 (by decide) ?_
  refine aw_isub (pc := 53) dX5_reach_53 ?_
  refine aw_stB (pc := 54) (Lf := fun v6 => [some (.inr (some 0)), some (.inl l1), some (.inl l2), some (.inl l3), some (.inl l4), some (.inl l5), some (.inl v6), none]) dX5_reach_54 (by decide) (fun _ => rfl) (fun v6 => ?_)
  refine aw_iload_n (pc := 56) dX5_reach_56 rfl rfl ?_
  refine aw_iconst (pc := 57) (v := 5) dX5_reach_57 (by decide) ?_
  refine aw_idiv (pc := 58) dX5_reach_58 (by decide) ?_
  refine aw_iload (pc := 59) dX5_reach_59 rfl ?_
  refine aw_icmp_ne (pc := 61) (tgt := 118) dX5_reach_61 (by decide) (fun _ => ?_) (fun _ => ?_)
  · refine aw_iload (pc := 64) dX5_reach_64 rfl ?_
    refine aw_if_gt (pc := 66) (tgt := 80) dX5_reach_66 (by decide) (fun _ => ?_) (fun _ => ?_)
    · exact aw_wk (wk_same (wk_none (wk_none (wk_same (wk_same (wk_same (wk_same (wk_none wk_nil)))))))) (xX5_reach_J80 l3 l4 l5 v6 σ5)
    refine aw_aload_n (pc := 69) dX5_reach_69 rfl rfl ?_
    refine aw_get (pc := 70) (v := .inr (some 6)) foX5_25 (atM0 _) rfl dX5_reach_70 ?_
    refine aw_iload (pc := 73) dX5_reach_73 rfl ?_
    refine aw_iald' (pc := 75) (atM6 _) dX5_reach_75 ?_
    refine aw_iconst (pc := 76) (v := 1) dX5_reach_76 (by decide) ?_
    refine aw_icmp_eq (pc := 77) (tgt := 118) dX5_reach_77 (by decide) (fun _ => ?_) (fun _ => ?_)
    · exact aw_wk (wk_same (wk_none (wk_none (wk_same (wk_same (wk_same (wk_none (wk_none wk_nil)))))))) (xX5_reach_J118 l3 l4 l5 σ5)
    exact aw_wk (wk_same (wk_none (wk_none (wk_same (wk_same (wk_same (wk_same (wk_none wk_nil)))))))) (xX5_reach_J80 l3 l4 l5 v6 σ5)
  exact aw_wk (wk_same (wk_none (wk_none (wk_same (wk_same (wk_same (wk_none (wk_none wk_nil)))))))) (xX5_reach_J118 l3 l4 l5 σ5)
def fX5_reach (a1 : Int32) (a2 : Int32) (σ : ST) : Option (Unit × ST) :=
  bindv ((150 * a1) + a2) (fun v1 => bindv (a2 / 5) (fun v2 => bindv (a2 - a2 / 5 * 5) (fun v3 => if a1 = a2 then (fX5_reach_J34 a1 a2 v1 v2 v3 0 v1 σ) else (fX5_reach_J34 a1 a2 v1 v2 v3 1000000000 v1 σ))))
set_option maxRecDepth 10000 in
theorem xX5_reach (a1 : Int32) (a2 : Int32) (σ : ST) : MS wlM yX5_reach cX5_reach 8 none rmX5_reach emV [.inr (some 0), .inl a1, .inl a2] σ (fX5_reach a1 a2 σ) := by
  refine MS.of (by decide +kernel) (Nat.le_of_ble_eq_true rfl) ?_
  show AW wlM yX5_reach cX5_reach 8 none rmX5_reach emV (fX5_reach a1 a2 σ) 0 [some (.inr (some 0)), some (.inl a1), some (.inl a2), none, none, none, none, none] [] σ
  unfold fX5_reach
  refine aw_sipush (pc := 0) (v := 150) dX5_reach_0 (by decide) ?_
  refine aw_iload_n (pc := 3) dX5_reach_3 rfl rfl ?_
  refine aw_imul (pc := 4) dX5_reach_4 ?_
  refine aw_iload_n (pc := 5) dX5_reach_5 rfl rfl ?_
  refine aw_iadd (pc := 6) dX5_reach_6 ?_
  refine aw_stnB (pc := 7) (Lf := fun v1 => [some (.inr (some 0)), some (.inl a1), some (.inl a2), some (.inl v1), none, none, none, none]) dX5_reach_7 rfl (by decide) (fun _ => rfl) (fun v1 => ?_)
  refine aw_iload_n (pc := 8) dX5_reach_8 rfl rfl ?_
  refine aw_iconst (pc := 9) (v := 5) dX5_reach_9 (by decide) ?_
  refine aw_idiv (pc := 10) dX5_reach_10 (by decide) ?_
  refine aw_stB (pc := 11) (Lf := fun v2 => [some (.inr (some 0)), some (.inl a1), some (.inl a2), some (.inl v1), some (.inl v2), none, none, none]) dX5_reach_11 (by decide) (fun _ => rfl) (fun v2 => ?_)
  refine aw_iload_n (pc := 13) dX5_reach_13 rfl rfl ?_
  refine aw_iconst (pc := 14) (v := 5) dX5_reach_14 (by decide) ?_
  refine aw_irem (pc := 15) dX5_reach_15 (by decide) ?_
  refine aw_stB (pc := 16) (Lf := fun v3 => [some (.inr (some 0)), some (.inl a1), some (.inl a2), some (.inl v1), some (.inl v2), some (.inl v3), none, none]) dX5_reach_16 (by decide) (fun _ => rfl) (fun v3 => ?_)
  refine aw_aload_n (pc := 18) dX5_reach_18 rfl rfl ?_
  refine aw_get (pc := 19) (v := .inr (some 15)) foX5_60 (atM0 _) rfl dX5_reach_19 ?_
  refine aw_iload_n (pc := 22) dX5_reach_22 rfl rfl ?_
  refine aw_iload_n (pc := 23) dX5_reach_23 rfl rfl ?_
  refine aw_iload_n (pc := 24) dX5_reach_24 rfl rfl ?_
  refine aw_icmp_ne (pc := 25) (tgt := 32) dX5_reach_25 (by decide) (fun _ => ?_) (fun _ => ?_)
  · refine aw_iconst (pc := 28) (v := 0) dX5_reach_28 (by decide) ?_
    refine aw_goto (pc := 29) (tgt := 34) dX5_reach_29 (by decide) ?_
    exact aw_wk (wk_same (wk_same (wk_same (wk_same (wk_same (wk_same (wk_none (wk_none wk_nil)))))))) (xX5_reach_J34 a1 a2 v1 v2 v3 0 v1 σ)
  refine aw_ldc (pc := 32) lcX5_108 dX5_reach_32 ?_
  exact aw_wk (wk_same (wk_same (wk_same (wk_same (wk_same (wk_same (wk_none (wk_none wk_nil)))))))) (xX5_reach_J34 a1 a2 v1 v2 v3 1000000000 v1 σ)
abbrev rmX5_findWays : Room := { frames := 3, cells := 0, slots := 0, locals := 71 }
def fX5_findWays_B27 (k10 : Int32 → ST → Option (Unit × ST)) (k27 : Int32 → Int32 → ST → Option (Unit × ST)) (l1 : Int32) (l2 : Int32) (σ : ST) : Option (Unit × ST) :=
  if (5 * (σ.1 0 8)) ≤ l2 then (bindv (l1 + 1) (fun v4 => k10 v4 σ)) else (cb (fX5_reach l1 l2 σ) (fun r5 σ6 => bindv (l2 + 1) (fun v7 => k27 l1 v7 σ6)))
set_option maxRecDepth 10000 in
theorem xX5_findWays_B27 (k10 : Int32 → ST → Option (Unit × ST)) (k27 : Int32 → Int32 → ST → Option (Unit × ST)) (hk10 : ∀ (l1 : Int32) (σ : ST), AW wlM yX5_findWays cX5_findWays 3 none rmX5_findWays emV (k10 l1 σ) 10 [some (.inr (some 0)), some (.inl l1), none] [] σ) (hk27 : ∀ (l1 : Int32) (l2 : Int32) (σ : ST), AW wlM yX5_findWays cX5_findWays 3 none rmX5_findWays emV (k27 l1 l2 σ) 27 [some (.inr (some 0)), some (.inl l1), some (.inl l2)] [] σ) (l1 : Int32) (l2 : Int32) (σ : ST) : AW wlM yX5_findWays cX5_findWays 3 none rmX5_findWays emV (fX5_findWays_B27 k10 k27 l1 l2 σ) 27 [some (.inr (some 0)), some (.inl l1), some (.inl l2)] [] σ := by
  unfold fX5_findWays_B27
  refine aw_iload_n (pc := 27) dX5_findWays_27 rfl rfl ?_
  refine aw_iconst (pc := 28) (v := 5) dX5_findWays_28 (by decide) ?_
  refine aw_aload_n (pc := 29) dX5_findWays_29 rfl rfl ?_
  refine aw_get (pc := 30) (v := .inl (σ.1 0 8)) foX5_94 (atM0 _) rfl dX5_findWays_30 ?_
  refine aw_imul (pc := 33) dX5_findWays_33 ?_
  refine aw_icmp_ge (pc := 34) (tgt := 49) dX5_findWays_34 (by decide) (fun _ => ?_) (fun _ => ?_)
  · refine aw_iincB (pc := 49) (v := 1) (Lf := fun v4 => [some (.inr (some 0)), some (.inl v4), some (.inl l2)]) dX5_findWays_49 rfl (by decide) (by decide) (fun _ => rfl) (fun v4 => ?_)
    refine aw_goto (pc := 52) (tgt := 10) dX5_findWays_52 (by decide) ?_
    exact aw_wk (wk_same (wk_same (wk_none wk_nil))) (hk10 v4 σ)
  refine aw_aload_n (pc := 37) dX5_findWays_37 rfl rfl ?_
  refine aw_iload_n (pc := 38) dX5_findWays_38 rfl rfl ?_
  refine aw_iload_n (pc := 39) dX5_findWays_39 rfl rfl ?_
  refine aw_cVV (pc := 40) (st := []) (xX5_reach l1 l2 σ) (atM0 _) rfl ckX5_131 ⟨rfl, rfl, by decide, by decide⟩ (Nat.le_of_ble_eq_true rfl) dX5_findWays_40 rfl (fun r5 σ6 => ?_)
  refine aw_iincB (pc := 43) (v := 1) (Lf := fun v7 => [some (.inr (some 0)), some (.inl l1), some (.inl v7)]) dX5_findWays_43 rfl (by decide) (by decide) (fun _ => rfl) (fun v7 => ?_)
  refine aw_goto (pc := 46) (tgt := 27) dX5_findWays_46 (by decide) ?_
  exact aw_wk (wk_same (wk_same (wk_same wk_nil))) (hk27 l1 v7 σ6)
def fX5_findWays_L27 (k10 : Int32 → ST → Option (Unit × ST)) (n : Nat) (l1 : Int32) (l2 : Int32) (σ : ST) : Option (Unit × ST) := loopN (α := Int32 × Int32 × ST) (fun k a => fX5_findWays_B27 k10 (fun l1 l2 σ => k (l1, l2, σ)) a.1 a.2.1 a.2.2) n (l1, l2, σ)
theorem xX5_findWays_L27 (k10 : Int32 → ST → Option (Unit × ST)) (hk10 : ∀ (l1 : Int32) (σ : ST), AW wlM yX5_findWays cX5_findWays 3 none rmX5_findWays emV (k10 l1 σ) 10 [some (.inr (some 0)), some (.inl l1), none] [] σ) (n : Nat) (l1 : Int32) (l2 : Int32) (σ : ST) : AW wlM yX5_findWays cX5_findWays 3 none rmX5_findWays emV (fX5_findWays_L27 k10 n l1 l2 σ) 27 [some (.inr (some 0)), some (.inl l1), some (.inl l2)] [] σ :=
  aw_loop (α := Int32 × Int32 × ST) (Lf := fun a => [some (.inr (some 0)), some (.inl (a.1)), some (.inl (a.2.1))]) (sf := fun a => a.2.2) (fun k hk a => by
    obtain ⟨l1, l2, σ⟩ := a
    exact xX5_findWays_B27 k10 (fun l1 l2 σ => k (l1, l2, σ)) hk10 (fun l1 l2 σ => hk (l1, l2, σ)) l1 l2 σ) n (l1, l2, σ)
def fX5_findWays_B10 (k10 : Int32 → ST → Option (Unit × ST)) (l1 : Int32) (σ : ST) : Option (Unit × ST) :=
  if (5 * (σ.1 0 8)) ≤ l1 then (bindv (stI σ 0 20 1) (fun σ1 => some ((), σ1))) else (cb (fX5_comeFrom l1 σ) (fun r2 σ3 => fX5_findWays_L27 k10 FU l1 0 σ3))
set_option maxRecDepth 10000 in
theorem xX5_findWays_B10 (k10 : Int32 → ST → Option (Unit × ST)) (hk10 : ∀ (l1 : Int32) (σ : ST), AW wlM yX5_findWays cX5_findWays 3 none rmX5_findWays emV (k10 l1 σ) 10 [some (.inr (some 0)), some (.inl l1), none] [] σ) (l1 : Int32) (σ : ST) : AW wlM yX5_findWays cX5_findWays 3 none rmX5_findWays emV (fX5_findWays_B10 k10 l1 σ) 10 [some (.inr (some 0)), some (.inl l1), none] [] σ := by
  unfold fX5_findWays_B10
  refine aw_iload_n (pc := 10) dX5_findWays_10 rfl rfl ?_
  refine aw_iconst (pc := 11) (v := 5) dX5_findWays_11 (by decide) ?_
  refine aw_aload_n (pc := 12) dX5_findWays_12 rfl rfl ?_
  refine aw_get (pc := 13) (v := .inl (σ.1 0 8)) foX5_94 (atM0 _) rfl dX5_findWays_13 ?_
  refine aw_imul (pc := 16) dX5_findWays_16 ?_
  refine aw_icmp_ge (pc := 17) (tgt := 55) dX5_findWays_17 (by decide) (fun _ => ?_) (fun _ => ?_)
  · refine aw_aload_n (pc := 55) dX5_findWays_55 rfl rfl ?_
    refine aw_iconst (pc := 56) (v := 1) dX5_findWays_56 (by decide) ?_
    refine aw_putZ (pc := 57) fwX5_101 (atM0 _) (Nat.le_of_ble_eq_true rfl) (by decide) (stM0_20 _ _) dX5_findWays_57 (fun σ1 => ?_)
    exact aw_ret_v (pc := 60) rfl rfl dX5_findWays_60
  refine aw_aload_n (pc := 20) dX5_findWays_20 rfl rfl ?_
  refine aw_iload_n (pc := 21) dX5_findWays_21 rfl rfl ?_
  refine aw_cVV (pc := 22) (st := []) (xX5_comeFrom l1 σ) (atM0 _) rfl ckX5_127 ⟨rfl, rfl, by decide, by decide⟩ (Nat.le_of_ble_eq_true rfl) dX5_findWays_22 rfl (fun r2 σ3 => ?_)
  refine aw_iconst (pc := 25) (v := 0) dX5_findWays_25 (by decide) ?_
  refine aw_stn (pc := 26) (L' := [some (.inr (some 0)), some (.inl l1), some (.inl 0)]) dX5_findWays_26 rfl (by decide) rfl ?_
  exact aw_wk (wk_same (wk_same (wk_same wk_nil))) (xX5_findWays_L27 k10 hk10 FU l1 0 σ3)
def fX5_findWays_L10 (n : Nat) (l1 : Int32) (σ : ST) : Option (Unit × ST) := loopN (α := Int32 × ST) (fun k a => fX5_findWays_B10 (fun l1 σ => k (l1, σ)) a.1 a.2) n (l1, σ)
theorem xX5_findWays_L10 (n : Nat) (l1 : Int32) (σ : ST) : AW wlM yX5_findWays cX5_findWays 3 none rmX5_findWays emV (fX5_findWays_L10 n l1 σ) 10 [some (.inr (some 0)), some (.inl l1), none] [] σ :=
  aw_loop (α := Int32 × ST) (Lf := fun a => [some (.inr (some 0)), some (.inl (a.1)), none]) (sf := fun a => a.2) (fun k hk a => by
    obtain ⟨l1, σ⟩ := a
    exact xX5_findWays_B10 (fun l1 σ => k (l1, σ)) (fun l1 σ => hk (l1, σ)) l1 σ) n (l1, σ)
def fX5_findWays (σ : ST) : Option (Unit × ST) :=
  if (σ.1 0 20) = 0 then (fX5_findWays_L10 FU 0 σ) else (some ((), σ))
set_option maxRecDepth 10000 in
theorem xX5_findWays (σ : ST) : MS wlM yX5_findWays cX5_findWays 3 none rmX5_findWays emV [.inr (some 0)] σ (fX5_findWays σ) := by
  refine MS.of (by decide +kernel) (Nat.le_of_ble_eq_true rfl) ?_
  show AW wlM yX5_findWays cX5_findWays 3 none rmX5_findWays emV (fX5_findWays σ) 0 [some (.inr (some 0)), none, none] [] σ
  unfold fX5_findWays
  refine aw_aload_n (pc := 0) dX5_findWays_0 rfl rfl ?_
  refine aw_get (pc := 1) (v := .inl (σ.1 0 20)) foX5_101 (atM0 _) rfl dX5_findWays_1 ?_
  refine aw_if_eq (pc := 4) (tgt := 8) dX5_findWays_4 (by decide) (fun _ => ?_) (fun _ => ?_)
  · refine aw_iconst (pc := 8) (v := 0) dX5_findWays_8 (by decide) ?_
    refine aw_stn (pc := 9) (L' := [some (.inr (some 0)), some (.inl 0), none]) dX5_findWays_9 rfl (by decide) rfl ?_
    exact aw_wk (wk_same (wk_same (wk_none wk_nil))) (xX5_findWays_L10 FU 0 σ)
  exact aw_ret_v (pc := 7) rfl rfl dX5_findWays_7
abbrev rmX5_way : Room := { frames := 4, cells := 0, slots := 0, locals := 93 }
def fX5_way (a1 : Int32) (a2 : Int32) (σ : ST) : Option (Int32 × ST) :=
  cb (fX5_isPoint a1 σ) (fun r1 σ2 => if r1 = 0 then (some ((-1), σ2)) else (cb (fX5_isPoint a2 σ2) (fun r3 σ4 => if r3 = 0 then (some ((-1), σ4)) else (cb (fX5_findWays σ4) (fun r5 σ6 => if ib ((150 * a1) + a2) 22500 = true then bindv (σ6.1 15 ((150 * a1) + a2).toNatClampNeg) (fun v7 => if 1000000000 ≤ v7 then (some ((-4), σ6)) else (some (v7, σ6))) else none)))))
set_option maxRecDepth 10000 in
theorem xX5_way (a1 : Int32) (a2 : Int32) (σ : ST) : MS wlM yX5_way cX5_way 4 (some .int) rmX5_way emI [.inr (some 0), .inl a1, .inl a2] σ (fX5_way a1 a2 σ) := by
  refine MS.of (by decide +kernel) (Nat.le_of_ble_eq_true rfl) ?_
  show AW wlM yX5_way cX5_way 4 (some .int) rmX5_way emI (fX5_way a1 a2 σ) 0 [some (.inr (some 0)), some (.inl a1), some (.inl a2), none] [] σ
  unfold fX5_way
  refine aw_aload_n (pc := 0) dX5_way_0 rfl rfl ?_
  refine aw_iload_n (pc := 1) dX5_way_1 rfl rfl ?_
  refine aw_cVI (pc := 2) (st := []) (xX5_isPoint a1 σ) (atM0 _) rfl ckX5_135 ⟨rfl, rfl, by decide, by decide⟩ (Nat.le_of_ble_eq_true rfl) dX5_way_2 rfl (fun r1 σ2 => ?_)
  refine aw_if_eq (pc := 5) (tgt := 16) dX5_way_5 (by decide) (fun _ => ?_) (fun _ => ?_)
  · refine aw_iconst (pc := 16) (v := (-1)) dX5_way_16 (by decide) ?_
    exact aw_ret_i (pc := 17) rfl rfl rfl dX5_way_17
  refine aw_aload_n (pc := 8) dX5_way_8 rfl rfl ?_
  refine aw_iload_n (pc := 9) dX5_way_9 rfl rfl ?_
  refine aw_cVI (pc := 10) (st := []) (xX5_isPoint a2 σ2) (atM0 _) rfl ckX5_135 ⟨rfl, rfl, by decide, by decide⟩ (Nat.le_of_ble_eq_true rfl) dX5_way_10 rfl (fun r3 σ4 => ?_)
  refine aw_if_ne (pc := 13) (tgt := 18) dX5_way_13 (by decide) (fun _ => ?_) (fun _ => ?_)
  · refine aw_iconst (pc := 16) (v := (-1)) dX5_way_16 (by decide) ?_
    exact aw_ret_i (pc := 17) rfl rfl rfl dX5_way_17
  refine aw_aload_n (pc := 18) dX5_way_18 rfl rfl ?_
  refine aw_cVV (pc := 19) (st := []) (xX5_findWays σ4) (atM0 _) rfl ckX5_138 ⟨rfl, rfl, by decide, by decide⟩ (Nat.le_of_ble_eq_true rfl) dX5_way_19 rfl (fun r5 σ6 => ?_)
  refine aw_aload_n (pc := 22) dX5_way_22 rfl rfl ?_
  refine aw_get (pc := 23) (v := .inr (some 15)) foX5_60 (atM0 _) rfl dX5_way_23 ?_
  refine aw_sipush (pc := 26) (v := 150) dX5_way_26 (by decide) ?_
  refine aw_iload_n (pc := 29) dX5_way_29 rfl rfl ?_
  refine aw_imul (pc := 30) dX5_way_30 ?_
  refine aw_iload_n (pc := 31) dX5_way_31 rfl rfl ?_
  refine aw_iadd (pc := 32) dX5_way_32 ?_
  refine aw_iald' (pc := 33) (atM15 _) dX5_way_33 ?_
  refine aw_stnB (pc := 34) (Lf := fun v7 => [some (.inr (some 0)), some (.inl a1), some (.inl a2), some (.inl v7)]) dX5_way_34 rfl (by decide) (fun _ => rfl) (fun v7 => ?_)
  refine aw_iload_n (pc := 35) dX5_way_35 rfl rfl ?_
  refine aw_ldc (pc := 36) lcX5_108 dX5_way_36 ?_
  refine aw_icmp_ge (pc := 38) (tgt := 45) dX5_way_38 (by decide) (fun _ => ?_) (fun _ => ?_)
  · refine aw_bipush (pc := 45) (v := (-4)) dX5_way_45 (by decide) ?_
    exact aw_ret_i (pc := 47) rfl rfl rfl dX5_way_47
  refine aw_iload_n (pc := 41) dX5_way_41 rfl rfl ?_
  refine aw_goto (pc := 42) (tgt := 47) dX5_way_42 (by decide) ?_
  exact aw_ret_i (pc := 47) rfl rfl rfl dX5_way_47
abbrev rmX5_fees : Room := { frames := 4, cells := 0, slots := 0, locals := 93 }
def fX5_fees (a1 : Int32) (a2 : Int32) (σ : ST) : Option (Int32 × ST) :=
  cb (fX5_isPoint a1 σ) (fun r1 σ2 => if r1 = 0 then (some ((-1), σ2)) else (cb (fX5_isPoint a2 σ2) (fun r3 σ4 => if r3 = 0 then (some ((-1), σ4)) else (cb (fX5_findWays σ4) (fun r5 σ6 => if ib ((150 * a1) + a2) 22500 = true then if 1000000000 ≤ (σ6.1 15 ((150 * a1) + a2).toNatClampNeg) then (some ((-4), σ6)) else (if ib ((150 * a1) + a2) 22500 = true then some ((σ6.1 16 ((150 * a1) + a2).toNatClampNeg), σ6) else none) else none)))))
set_option maxRecDepth 10000 in
theorem xX5_fees (a1 : Int32) (a2 : Int32) (σ : ST) : MS wlM yX5_fees cX5_fees 3 (some .int) rmX5_fees emI [.inr (some 0), .inl a1, .inl a2] σ (fX5_fees a1 a2 σ) := by
  refine MS.of (by decide +kernel) (Nat.le_of_ble_eq_true rfl) ?_
  show AW wlM yX5_fees cX5_fees 3 (some .int) rmX5_fees emI (fX5_fees a1 a2 σ) 0 [some (.inr (some 0)), some (.inl a1), some (.inl a2)] [] σ
  unfold fX5_fees
  refine aw_aload_n (pc := 0) dX5_fees_0 rfl rfl ?_
  refine aw_iload_n (pc := 1) dX5_fees_1 rfl rfl ?_
  refine aw_cVI (pc := 2) (st := []) (xX5_isPoint a1 σ) (atM0 _) rfl ckX5_135 ⟨rfl, rfl, by decide, by decide⟩ (Nat.le_of_ble_eq_true rfl) dX5_fees_2 rfl (fun r1 σ2 => ?_)
  refine aw_if_eq (pc := 5) (tgt := 16) dX5_fees_5 (by decide) (fun _ => ?_) (fun _ => ?_)
  · refine aw_iconst (pc := 16) (v := (-1)) dX5_fees_16 (by decide) ?_
    exact aw_ret_i (pc := 17) rfl rfl rfl dX5_fees_17
  refine aw_aload_n (pc := 8) dX5_fees_8 rfl rfl ?_
  refine aw_iload_n (pc := 9) dX5_fees_9 rfl rfl ?_
  refine aw_cVI (pc := 10) (st := []) (xX5_isPoint a2 σ2) (atM0 _) rfl ckX5_135 ⟨rfl, rfl, by decide, by decide⟩ (Nat.le_of_ble_eq_true rfl) dX5_fees_10 rfl (fun r3 σ4 => ?_)
  refine aw_if_ne (pc := 13) (tgt := 18) dX5_fees_13 (by decide) (fun _ => ?_) (fun _ => ?_)
  · refine aw_iconst (pc := 16) (v := (-1)) dX5_fees_16 (by decide) ?_
    exact aw_ret_i (pc := 17) rfl rfl rfl dX5_fees_17
  refine aw_aload_n (pc := 18) dX5_fees_18 rfl rfl ?_
  refine aw_cVV (pc := 19) (st := []) (xX5_findWays σ4) (atM0 _) rfl ckX5_138 ⟨rfl, rfl, by decide, by decide⟩ (Nat.le_of_ble_eq_true rfl) dX5_fees_19 rfl (fun r5 σ6 => ?_)
  refine aw_aload_n (pc := 22) dX5_fees_22 rfl rfl ?_
  refine aw_get (pc := 23) (v := .inr (some 15)) foX5_60 (atM0 _) rfl dX5_fees_23 ?_
  refine aw_sipush (pc := 26) (v := 150) dX5_fees_26 (by decide) ?_
  refine aw_iload_n (pc := 29) dX5_fees_29 rfl rfl ?_
  refine aw_imul (pc := 30) dX5_fees_30 ?_
  refine aw_iload_n (pc := 31) dX5_fees_31 rfl rfl ?_
  refine aw_iadd (pc := 32) dX5_fees_32 ?_
  refine aw_iald' (pc := 33) (atM15 _) dX5_fees_33 ?_
  refine aw_ldc (pc := 34) lcX5_108 dX5_fees_34 ?_
  refine aw_icmp_ge (pc := 36) (tgt := 54) dX5_fees_36 (by decide) (fun _ => ?_) (fun _ => ?_)
  · refine aw_bipush (pc := 54) (v := (-4)) dX5_fees_54 (by decide) ?_
    exact aw_ret_i (pc := 56) rfl rfl rfl dX5_fees_56
  refine aw_aload_n (pc := 39) dX5_fees_39 rfl rfl ?_
  refine aw_get (pc := 40) (v := .inr (some 16)) foX5_63 (atM0 _) rfl dX5_fees_40 ?_
  refine aw_sipush (pc := 43) (v := 150) dX5_fees_43 (by decide) ?_
  refine aw_iload_n (pc := 46) dX5_fees_46 rfl rfl ?_
  refine aw_imul (pc := 47) dX5_fees_47 ?_
  refine aw_iload_n (pc := 48) dX5_fees_48 rfl rfl ?_
  refine aw_iadd (pc := 49) dX5_fees_49 ?_
  refine aw_iald' (pc := 50) (atM16 _) dX5_fees_50 ?_
  refine aw_goto (pc := 51) (tgt := 56) dX5_fees_51 (by decide) ?_
  exact aw_ret_i (pc := 56) rfl rfl rfl dX5_fees_56
abbrev rmX5_isDrive : Room := { frames := 0, cells := 0, slots := 0, locals := 0 }
def fX5_isDrive (a1 : Int32) (σ : ST) : Option (Int32 × ST) :=
  if a1 < 0 then (some (0, σ)) else (if (σ.1 0 15) ≤ a1 then (some (0, σ)) else (some (1, σ)))
set_option maxRecDepth 10000 in
theorem xX5_isDrive (a1 : Int32) (σ : ST) : MS wlM yX5_isDrive cX5_isDrive 2 (some .boolean) rmX5_isDrive emI [.inr (some 0), .inl a1] σ (fX5_isDrive a1 σ) := by
  refine MS.of (by decide +kernel) (Nat.le_of_ble_eq_true rfl) ?_
  show AW wlM yX5_isDrive cX5_isDrive 2 (some .boolean) rmX5_isDrive emI (fX5_isDrive a1 σ) 0 [some (.inr (some 0)), some (.inl a1)] [] σ
  unfold fX5_isDrive
  refine aw_iload_n (pc := 0) dX5_isDrive_0 rfl rfl ?_
  refine aw_if_lt (pc := 1) (tgt := 16) dX5_isDrive_1 (by decide) (fun _ => ?_) (fun _ => ?_)
  · refine aw_iconst (pc := 16) (v := 0) dX5_isDrive_16 (by decide) ?_
    exact aw_ret_i (pc := 17) rfl rfl rfl dX5_isDrive_17
  refine aw_iload_n (pc := 4) dX5_isDrive_4 rfl rfl ?_
  refine aw_aload_n (pc := 5) dX5_isDrive_5 rfl rfl ?_
  refine aw_get (pc := 6) (v := .inl (σ.1 0 15)) foX5_141 (atM0 _) rfl dX5_isDrive_6 ?_
  refine aw_icmp_ge (pc := 9) (tgt := 16) dX5_isDrive_9 (by decide) (fun _ => ?_) (fun _ => ?_)
  · refine aw_iconst (pc := 16) (v := 0) dX5_isDrive_16 (by decide) ?_
    exact aw_ret_i (pc := 17) rfl rfl rfl dX5_isDrive_17
  refine aw_iconst (pc := 12) (v := 1) dX5_isDrive_12 (by decide) ?_
  refine aw_goto (pc := 13) (tgt := 17) dX5_isDrive_13 (by decide) ?_
  exact aw_ret_i (pc := 17) rfl rfl rfl dX5_isDrive_17
abbrev rmX5_isSight : Room := { frames := 1, cells := 0, slots := 0, locals := 21 }
def fX5_isSight (a1 : Int32) (a2 : Int32) (σ : ST) : Option (Int32 × ST) :=
  cb (fX5_isDrive a1 σ) (fun r1 σ2 => if r1 = 0 then (some (0, σ2)) else (if a2 < 0 then (some (0, σ2)) else (if ib a1 6 = true then if (σ2.1 13 a1.toNatClampNeg) ≤ a2 then (some (0, σ2)) else (some (1, σ2)) else none)))
set_option maxRecDepth 10000 in
theorem xX5_isSight (a1 : Int32) (a2 : Int32) (σ : ST) : MS wlM yX5_isSight cX5_isSight 3 (some .boolean) rmX5_isSight emI [.inr (some 0), .inl a1, .inl a2] σ (fX5_isSight a1 a2 σ) := by
  refine MS.of (by decide +kernel) (Nat.le_of_ble_eq_true rfl) ?_
  show AW wlM yX5_isSight cX5_isSight 3 (some .boolean) rmX5_isSight emI (fX5_isSight a1 a2 σ) 0 [some (.inr (some 0)), some (.inl a1), some (.inl a2)] [] σ
  unfold fX5_isSight
  refine aw_aload_n (pc := 0) dX5_isSight_0 rfl rfl ?_
  refine aw_iload_n (pc := 1) dX5_isSight_1 rfl rfl ?_
  refine aw_cVI (pc := 2) (st := []) (xX5_isDrive a1 σ) (atM0 _) rfl ckX5_144 ⟨rfl, rfl, by decide, by decide⟩ (Nat.le_of_ble_eq_true rfl) dX5_isSight_2 rfl (fun r1 σ2 => ?_)
  refine aw_if_eq (pc := 5) (tgt := 26) dX5_isSight_5 (by decide) (fun _ => ?_) (fun _ => ?_)
  · refine aw_iconst (pc := 26) (v := 0) dX5_isSight_26 (by decide) ?_
    exact aw_ret_i (pc := 27) rfl rfl rfl dX5_isSight_27
  refine aw_iload_n (pc := 8) dX5_isSight_8 rfl rfl ?_
  refine aw_if_lt (pc := 9) (tgt := 26) dX5_isSight_9 (by decide) (fun _ => ?_) (fun _ => ?_)
  · refine aw_iconst (pc := 26) (v := 0) dX5_isSight_26 (by decide) ?_
    exact aw_ret_i (pc := 27) rfl rfl rfl dX5_isSight_27
  refine aw_iload_n (pc := 12) dX5_isSight_12 rfl rfl ?_
  refine aw_aload_n (pc := 13) dX5_isSight_13 rfl rfl ?_
  refine aw_get (pc := 14) (v := .inr (some 13)) foX5_47 (atM0 _) rfl dX5_isSight_14 ?_
  refine aw_iload_n (pc := 17) dX5_isSight_17 rfl rfl ?_
  refine aw_iald' (pc := 18) (atM13 _) dX5_isSight_18 ?_
  refine aw_icmp_ge (pc := 19) (tgt := 26) dX5_isSight_19 (by decide) (fun _ => ?_) (fun _ => ?_)
  · refine aw_iconst (pc := 26) (v := 0) dX5_isSight_26 (by decide) ?_
    exact aw_ret_i (pc := 27) rfl rfl rfl dX5_isSight_27
  refine aw_iconst (pc := 22) (v := 1) dX5_isSight_22 (by decide) ?_
  refine aw_goto (pc := 23) (tgt := 27) dX5_isSight_23 (by decide) ?_
  exact aw_ret_i (pc := 27) rfl rfl rfl dX5_isSight_27
abbrev rmX5_drive : Room := { frames := 0, cells := 0, slots := 0, locals := 0 }
def fX5_drive (σ : ST) : Option (Int32 × ST) :=
  if (σ.1 0 15) = 6 then (some ((-2), σ)) else (bindv (stI σ 0 15 ((σ.1 0 15) + 1)) (fun σ1 => some (((σ1.1 0 15) - 1), σ1)))
set_option maxRecDepth 10000 in
theorem xX5_drive (σ : ST) : MS wlM yX5_drive cX5_drive 1 (some .int) rmX5_drive emI [.inr (some 0)] σ (fX5_drive σ) := by
  refine MS.of (by decide +kernel) (Nat.le_of_ble_eq_true rfl) ?_
  show AW wlM yX5_drive cX5_drive 1 (some .int) rmX5_drive emI (fX5_drive σ) 0 [some (.inr (some 0))] [] σ
  unfold fX5_drive
  refine aw_aload_n (pc := 0) dX5_drive_0 rfl rfl ?_
  refine aw_get (pc := 1) (v := .inl (σ.1 0 15)) foX5_141 (atM0 _) rfl dX5_drive_1 ?_
  refine aw_bipush (pc := 4) (v := 6) dX5_drive_4 (by decide) ?_
  refine aw_icmp_ne (pc := 6) (tgt := 12) dX5_drive_6 (by decide) (fun _ => ?_) (fun _ => ?_)
  · refine aw_bipush (pc := 9) (v := (-2)) dX5_drive_9 (by decide) ?_
    exact aw_ret_i (pc := 11) rfl rfl rfl dX5_drive_11
  refine aw_aload_n (pc := 12) dX5_drive_12 rfl rfl ?_
  refine aw_dup (pc := 13) dX5_drive_13 ?_
  refine aw_get (pc := 14) (v := .inl (σ.1 0 15)) foX5_141 (atM0 _) rfl dX5_drive_14 ?_
  refine aw_iconst (pc := 17) (v := 1) dX5_drive_17 (by decide) ?_
  refine aw_iadd (pc := 18) dX5_drive_18 ?_
  refine aw_putI (pc := 19) fwX5_141 (atM0 _) (Nat.le_of_ble_eq_true rfl) (stM0_15 _ _) dX5_drive_19 (fun σ1 => ?_)
  refine aw_aload_n (pc := 22) dX5_drive_22 rfl rfl ?_
  refine aw_get (pc := 23) (v := .inl (σ1.1 0 15)) foX5_141 (atM0 _) rfl dX5_drive_23 ?_
  refine aw_iconst (pc := 26) (v := 1) dX5_drive_26 (by decide) ?_
  refine aw_isub (pc := 27) dX5_drive_27 ?_
  exact aw_ret_i (pc := 28) rfl rfl rfl dX5_drive_28
abbrev rmX5_sight : Room := { frames := 1, cells := 0, slots := 0, locals := 22 }
def fX5_sight_J82 (l1 : Int32) (l2 : Int32) (l3 : Int32) (l4 : Int32) (l5 : Int32) (σ : ST) : Option (Int32 × ST) :=
  if l5 = 20 then (some ((-2), σ)) else (if ib ((20 * l1) + l5) 120 = true then bindv (stI σ 9 ((20 * l1) + l5).toNatClampNeg (l2 / 100)) (fun σ10 => if ib ((20 * l1) + l5) 120 = true then bindv (stI σ10 10 ((20 * l1) + l5).toNatClampNeg (l2 - l2 / 100 * 100)) (fun σ11 => if ib ((20 * l1) + l5) 120 = true then bindv (stI σ11 11 ((20 * l1) + l5).toNatClampNeg l3) (fun σ12 => if ib ((20 * l1) + l5) 120 = true then bindv (stI σ12 12 ((20 * l1) + l5).toNatClampNeg l4) (fun σ13 => if ib l1 6 = true then if ib l1 6 = true then bindv (stI σ13 13 l1.toNatClampNeg ((σ13.1 13 l1.toNatClampNeg) + 1)) (fun σ14 => some (l5, σ14)) else none else none) else none) else none) else none) else none)
set_option maxRecDepth 10000 in
theorem xX5_sight_J82 (l1 : Int32) (l2 : Int32) (l3 : Int32) (l4 : Int32) (l5 : Int32) (σ : ST) : AW wlM yX5_sight cX5_sight 6 (some .int) rmX5_sight emI (fX5_sight_J82 l1 l2 l3 l4 l5 σ) 82 [some (.inr (some 0)), some (.inl l1), some (.inl l2), some (.inl l3), some (.inl l4), some (.inl l5)] [] σ := by
  unfold fX5_sight_J82
  refine aw_iload (pc := 82) dX5_sight_82 rfl ?_
  refine aw_bipush (pc := 84) (v := 20) dX5_sight_84 (by decide) ?_
  refine aw_icmp_ne (pc := 86) (tgt := 92) dX5_sight_86 (by decide) (fun _ => ?_) (fun _ => ?_)
  · refine aw_bipush (pc := 89) (v := (-2)) dX5_sight_89 (by decide) ?_
    exact aw_ret_i (pc := 91) rfl rfl rfl dX5_sight_91
  refine aw_aload_n (pc := 92) dX5_sight_92 rfl rfl ?_
  refine aw_get (pc := 93) (v := .inr (some 9)) foX5_35 (atM0 _) rfl dX5_sight_93 ?_
  refine aw_bipush (pc := 96) (v := 20) dX5_sight_96 (by decide) ?_
  refine aw_iload_n (pc := 98) dX5_sight_98 rfl rfl ?_
  refine aw_imul (pc := 99) dX5_sight_99 ?_
  refine aw_iload (pc := 100) dX5_sight_100 rfl ?_
  refine aw_iadd (pc := 102) dX5_sight_102 ?_
  refine aw_iload_n (pc := 103) dX5_sight_103 rfl rfl ?_
  refine aw_bipush (pc := 104) (v := 100) dX5_sight_104 (by decide) ?_
  refine aw_idiv (pc := 106) dX5_sight_106 (by decide) ?_
  refine aw_iastB (pc := 107) (atM9 _) (stM9 _ _ _) dX5_sight_107 (fun σ10 => ?_)
  refine aw_aload_n (pc := 108) dX5_sight_108 rfl rfl ?_
  refine aw_get (pc := 109) (v := .inr (some 10)) foX5_38 (atM0 _) rfl dX5_sight_109 ?_
  refine aw_bipush (pc := 112) (v := 20) dX5_sight_112 (by decide) ?_
  refine aw_iload_n (pc := 114) dX5_sight_114 rfl rfl ?_
  refine aw_imul (pc := 115) dX5_sight_115 ?_
  refine aw_iload (pc := 116) dX5_sight_116 rfl ?_
  refine aw_iadd (pc := 118) dX5_sight_118 ?_
  refine aw_iload_n (pc := 119) dX5_sight_119 rfl rfl ?_
  refine aw_bipush (pc := 120) (v := 100) dX5_sight_120 (by decide) ?_
  refine aw_irem (pc := 122) dX5_sight_122 (by decide) ?_
  refine aw_iastB (pc := 123) (atM10 _) (stM10 _ _ _) dX5_sight_123 (fun σ11 => ?_)
  refine aw_aload_n (pc := 124) dX5_sight_124 rfl rfl ?_
  refine aw_get (pc := 125) (v := .inr (some 11)) foX5_41 (atM0 _) rfl dX5_sight_125 ?_
  refine aw_bipush (pc := 128) (v := 20) dX5_sight_128 (by decide) ?_
  refine aw_iload_n (pc := 130) dX5_sight_130 rfl rfl ?_
  refine aw_imul (pc := 131) dX5_sight_131 ?_
  refine aw_iload (pc := 132) dX5_sight_132 rfl ?_
  refine aw_iadd (pc := 134) dX5_sight_134 ?_
  refine aw_iload_n (pc := 135) dX5_sight_135 rfl rfl ?_
  refine aw_iastB (pc := 136) (atM11 _) (stM11 _ _ _) dX5_sight_136 (fun σ12 => ?_)
  refine aw_aload_n (pc := 137) dX5_sight_137 rfl rfl ?_
  refine aw_get (pc := 138) (v := .inr (some 12)) foX5_44 (atM0 _) rfl dX5_sight_138 ?_
  refine aw_bipush (pc := 141) (v := 20) dX5_sight_141 (by decide) ?_
  refine aw_iload_n (pc := 143) dX5_sight_143 rfl rfl ?_
  refine aw_imul (pc := 144) dX5_sight_144 ?_
  refine aw_iload (pc := 145) dX5_sight_145 rfl ?_
  refine aw_iadd (pc := 147) dX5_sight_147 ?_
  refine aw_iload (pc := 148) dX5_sight_148 rfl ?_
  refine aw_iastB (pc := 150) (atM12 _) (stM12 _ _ _) dX5_sight_150 (fun σ13 => ?_)
  refine aw_aload_n (pc := 151) dX5_sight_151 rfl rfl ?_
  refine aw_get (pc := 152) (v := .inr (some 13)) foX5_47 (atM0 _) rfl dX5_sight_152 ?_
  refine aw_iload_n (pc := 155) dX5_sight_155 rfl rfl ?_
  refine aw_dup2 (pc := 156) dX5_sight_156 ?_
  refine aw_iald' (pc := 157) (atM13 _) dX5_sight_157 ?_
  refine aw_iconst (pc := 158) (v := 1) dX5_sight_158 (by decide) ?_
  refine aw_iadd (pc := 159) dX5_sight_159 ?_
  refine aw_iastB (pc := 160) (atM13 _) (stM13 _ _ _) dX5_sight_160 (fun σ14 => ?_)
  refine aw_iload (pc := 161) dX5_sight_161 rfl ?_
  exact aw_ret_i (pc := 163) rfl rfl rfl dX5_sight_163
def fX5_sight (a1 : Int32) (a2 : Int32) (a3 : Int32) (a4 : Int32) (σ : ST) : Option (Int32 × ST) :=
  cb (fX5_isDrive a1 σ) (fun r1 σ2 => if r1 = 0 then (some ((-1), σ2)) else (if a2 < 0 then (some ((-1), σ2)) else (cb (fX5_within (a2 / 100) 0 99 σ2) (fun r3 σ4 => if r3 = 0 then (some ((-1), σ4)) else (cb (fX5_within a3 0 10000 σ4) (fun r5 σ6 => if r5 = 0 then (some ((-1), σ6)) else (cb (fX5_within a4 0 60 σ6) (fun r7 σ8 => if r7 = 0 then (some ((-1), σ8)) else (if ib a1 6 = true then bindv (σ8.1 13 a1.toNatClampNeg) (fun v9 => if v9 ≤ 0 then (fX5_sight_J82 a1 a2 a3 a4 v9 σ8) else (if ib (((20 * a1) + v9) - 1) 120 = true then if (σ8.1 11 (((20 * a1) + v9) - 1).toNatClampNeg) < a3 then (fX5_sight_J82 a1 a2 a3 a4 v9 σ8) else (some ((-1), σ8)) else none)) else none)))))))))
set_option maxRecDepth 10000 in
theorem xX5_sight (a1 : Int32) (a2 : Int32) (a3 : Int32) (a4 : Int32) (σ : ST) : MS wlM yX5_sight cX5_sight 6 (some .int) rmX5_sight emI [.inr (some 0), .inl a1, .inl a2, .inl a3, .inl a4] σ (fX5_sight a1 a2 a3 a4 σ) := by
  refine MS.of (by decide +kernel) (Nat.le_of_ble_eq_true rfl) ?_
  show AW wlM yX5_sight cX5_sight 6 (some .int) rmX5_sight emI (fX5_sight a1 a2 a3 a4 σ) 0 [some (.inr (some 0)), some (.inl a1), some (.inl a2), some (.inl a3), some (.inl a4), none] [] σ
  unfold fX5_sight
  refine aw_aload_n (pc := 0) dX5_sight_0 rfl rfl ?_
  refine aw_iload_n (pc := 1) dX5_sight_1 rfl rfl ?_
  refine aw_cVI (pc := 2) (st := []) (xX5_isDrive a1 σ) (atM0 _) rfl ckX5_144 ⟨rfl, rfl, by decide, by decide⟩ (Nat.le_of_ble_eq_true rfl) dX5_sight_2 rfl (fun r1 σ2 => ?_)
  refine aw_if_eq (pc := 5) (tgt := 47) dX5_sight_5 (by decide) (fun _ => ?_) (fun _ => ?_)
  · refine aw_iconst (pc := 47) (v := (-1)) dX5_sight_47 (by decide) ?_
    exact aw_ret_i (pc := 48) rfl rfl rfl dX5_sight_48
  refine aw_iload_n (pc := 8) dX5_sight_8 rfl rfl ?_
  refine aw_if_lt (pc := 9) (tgt := 47) dX5_sight_9 (by decide) (fun _ => ?_) (fun _ => ?_)
  · refine aw_iconst (pc := 47) (v := (-1)) dX5_sight_47 (by decide) ?_
    exact aw_ret_i (pc := 48) rfl rfl rfl dX5_sight_48
  refine aw_iload_n (pc := 12) dX5_sight_12 rfl rfl ?_
  refine aw_bipush (pc := 13) (v := 100) dX5_sight_13 (by decide) ?_
  refine aw_idiv (pc := 15) dX5_sight_15 (by decide) ?_
  refine aw_iconst (pc := 16) (v := 0) dX5_sight_16 (by decide) ?_
  refine aw_bipush (pc := 17) (v := 99) dX5_sight_17 (by decide) ?_
  refine aw_cSI (pc := 19) (st := []) (xX5_within (a2 / 100) 0 99 σ2) ckX5_87 ⟨rfl, rfl, by decide, by decide⟩ (Nat.le_of_ble_eq_true rfl) dX5_sight_19 rfl (fun r3 σ4 => ?_)
  refine aw_if_eq (pc := 22) (tgt := 47) dX5_sight_22 (by decide) (fun _ => ?_) (fun _ => ?_)
  · refine aw_iconst (pc := 47) (v := (-1)) dX5_sight_47 (by decide) ?_
    exact aw_ret_i (pc := 48) rfl rfl rfl dX5_sight_48
  refine aw_iload_n (pc := 25) dX5_sight_25 rfl rfl ?_
  refine aw_iconst (pc := 26) (v := 0) dX5_sight_26 (by decide) ?_
  refine aw_sipush (pc := 27) (v := 10000) dX5_sight_27 (by decide) ?_
  refine aw_cSI (pc := 30) (st := []) (xX5_within a3 0 10000 σ4) ckX5_87 ⟨rfl, rfl, by decide, by decide⟩ (Nat.le_of_ble_eq_true rfl) dX5_sight_30 rfl (fun r5 σ6 => ?_)
  refine aw_if_eq (pc := 33) (tgt := 47) dX5_sight_33 (by decide) (fun _ => ?_) (fun _ => ?_)
  · refine aw_iconst (pc := 47) (v := (-1)) dX5_sight_47 (by decide) ?_
    exact aw_ret_i (pc := 48) rfl rfl rfl dX5_sight_48
  refine aw_iload (pc := 36) dX5_sight_36 rfl ?_
  refine aw_iconst (pc := 38) (v := 0) dX5_sight_38 (by decide) ?_
  refine aw_bipush (pc := 39) (v := 60) dX5_sight_39 (by decide) ?_
  refine aw_cSI (pc := 41) (st := []) (xX5_within a4 0 60 σ6) ckX5_87 ⟨rfl, rfl, by decide, by decide⟩ (Nat.le_of_ble_eq_true rfl) dX5_sight_41 rfl (fun r7 σ8 => ?_)
  refine aw_if_ne (pc := 44) (tgt := 49) dX5_sight_44 (by decide) (fun _ => ?_) (fun _ => ?_)
  · refine aw_iconst (pc := 47) (v := (-1)) dX5_sight_47 (by decide) ?_
    exact aw_ret_i (pc := 48) rfl rfl rfl dX5_sight_48
  refine aw_aload_n (pc := 49) dX5_sight_49 rfl rfl ?_
  refine aw_get (pc := 50) (v := .inr (some 13)) foX5_47 (atM0 _) rfl dX5_sight_50 ?_
  refine aw_iload_n (pc := 53) dX5_sight_53 rfl rfl ?_
  refine aw_iald' (pc := 54) (atM13 _) dX5_sight_54 ?_
  refine aw_stB (pc := 55) (Lf := fun v9 => [some (.inr (some 0)), some (.inl a1), some (.inl a2), some (.inl a3), some (.inl a4), some (.inl v9)]) dX5_sight_55 (by decide) (fun _ => rfl) (fun v9 => ?_)
  refine aw_iload (pc := 57) dX5_sight_57 rfl ?_
  refine aw_if_le (pc := 59) (tgt := 82) dX5_sight_59 (by decide) (fun _ => ?_) (fun _ => ?_)
  · exact aw_wk (wk_same (wk_same (wk_same (wk_same (wk_same (wk_same wk_nil)))))) (xX5_sight_J82 a1 a2 a3 a4 v9 σ8)
  refine aw_iload_n (pc := 62) dX5_sight_62 rfl rfl ?_
  refine aw_aload_n (pc := 63) dX5_sight_63 rfl rfl ?_
  refine aw_get (pc := 64) (v := .inr (some 11)) foX5_41 (atM0 _) rfl dX5_sight_64 ?_
  refine aw_bipush (pc := 67) (v := 20) dX5_sight_67 (by decide) ?_
  refine aw_iload_n (pc := 69) dX5_sight_69 rfl rfl ?_
  refine aw_imul (pc := 70) dX5_sight_70 ?_
  refine aw_iload (pc := 71) dX5_sight_71 rfl ?_
  refine aw_iadd (pc := 73) dX5_sight_73 ?_
  refine aw_iconst (pc := 74) (v := 1) dX5_sight_74 (by decide) ?_
  refine aw_isub (pc := 75) dX5_sight_75 ?_
  refine aw_iald' (pc := 76) (atM11 _) dX5_sight_76 ?_
  refine aw_icmp_gt (pc := 77) (tgt := 82) dX5_sight_77 (by decide) (fun _ => ?_) (fun _ => ?_)
  · exact aw_wk (wk_same (wk_same (wk_same (wk_same (wk_same (wk_same wk_nil)))))) (xX5_sight_J82 a1 a2 a3 a4 v9 σ8)
  refine aw_iconst (pc := 80) (v := (-1)) dX5_sight_80 (by decide) ?_
  exact aw_ret_i (pc := 81) rfl rfl rfl dX5_sight_81
end
section
theorem i_vc : Claimed_1_1 ∧ Claimed_1_2 := sorry
end
