-- ===== PART A: goes FIRST, ahead of the names: the tables' words, and 'selects' of the private methods out of them =====
/-- a private method of a class that the tables say can be made, by its rows of tables_1 -/
def lw_okq (q : MethodName × Nat) : Prop := (q.1.cls ≠ "java/lang/invoke/MethodHandle" ∧ q.1.cls ≠ "java/lang/invoke/VarHandle") ∧ Cond.instantiable q.1.cls q.2 ∈ tables_1 ∧ Cond.privateMethod q.1 ∈ tables_1 ∧ Cond.instanceMethod q.1 ∈ tables_1
theorem lw_p0 : lw_okq (⟨"RouteStrides$Table", "takeFirstStrides", "()V"⟩, 8) := ⟨⟨by decide +kernel, by decide +kernel⟩, List.mem_of_getElem? (i := 48) (by decide +kernel), List.mem_of_getElem? (i := 54) (by decide +kernel), List.mem_of_getElem? (i := 55) (by decide +kernel)⟩
theorem lw_p1 : lw_okq (⟨"RouteStrides$Tape", "readLine", "(LRouteStrides$Table;)V"⟩, 4) := ⟨⟨by decide +kernel, by decide +kernel⟩, List.mem_of_getElem? (i := 27) (by decide +kernel), List.mem_of_getElem? (i := 390) (by decide +kernel), List.mem_of_getElem? (i := 391) (by decide +kernel)⟩
theorem lw_p2 : lw_okq (⟨"RouteStrides$Tape", "nextSign", "()I"⟩, 4) := ⟨⟨by decide +kernel, by decide +kernel⟩, List.mem_of_getElem? (i := 27) (by decide +kernel), List.mem_of_getElem? (i := 394) (by decide +kernel), List.mem_of_getElem? (i := 395) (by decide +kernel)⟩
theorem lw_p3 : lw_okq (⟨"RouteStrides$Tape", "signAt", "(I)I"⟩, 4) := ⟨⟨by decide +kernel, by decide +kernel⟩, List.mem_of_getElem? (i := 27) (by decide +kernel), List.mem_of_getElem? (i := 398) (by decide +kernel), List.mem_of_getElem? (i := 399) (by decide +kernel)⟩
theorem lw_p4 : lw_okq (⟨"RouteStrides$Tape", "readRule", "(LRouteStrides$Table;)V"⟩, 4) := ⟨⟨by decide +kernel, by decide +kernel⟩, List.mem_of_getElem? (i := 27) (by decide +kernel), List.mem_of_getElem? (i := 405) (by decide +kernel), List.mem_of_getElem? (i := 406) (by decide +kernel)⟩
theorem lw_p5 : lw_okq (⟨"RouteStrides$Tape", "expect", "(C)V"⟩, 4) := ⟨⟨by decide +kernel, by decide +kernel⟩, List.mem_of_getElem? (i := 27) (by decide +kernel), List.mem_of_getElem? (i := 409) (by decide +kernel), List.mem_of_getElem? (i := 410) (by decide +kernel)⟩
theorem lw_p6 : lw_okq (⟨"RouteStrides$Tape", "fail", "(II)V"⟩, 4) := ⟨⟨by decide +kernel, by decide +kernel⟩, List.mem_of_getElem? (i := 27) (by decide +kernel), List.mem_of_getElem? (i := 413) (by decide +kernel), List.mem_of_getElem? (i := 414) (by decide +kernel)⟩
theorem lw_p7 : lw_okq (⟨"RouteStrides$Tape", "readNumber", "(I)I"⟩, 4) := ⟨⟨by decide +kernel, by decide +kernel⟩, List.mem_of_getElem? (i := 27) (by decide +kernel), List.mem_of_getElem? (i := 417) (by decide +kernel), List.mem_of_getElem? (i := 418) (by decide +kernel)⟩
theorem lw_p8 : lw_okq (⟨"RouteStrides$Table", "release", "(I)V"⟩, 8) := ⟨⟨by decide +kernel, by decide +kernel⟩, List.mem_of_getElem? (i := 48) (by decide +kernel), List.mem_of_getElem? (i := 451) (by decide +kernel), List.mem_of_getElem? (i := 452) (by decide +kernel)⟩
theorem lw_p9 : lw_okq (⟨"RouteStrides$Table", "makeRoom", "(JI)I"⟩, 8) := ⟨⟨by decide +kernel, by decide +kernel⟩, List.mem_of_getElem? (i := 48) (by decide +kernel), List.mem_of_getElem? (i := 455) (by decide +kernel), List.mem_of_getElem? (i := 456) (by decide +kernel)⟩
theorem lw_p10 : lw_okq (⟨"RouteStrides$Table", "takeHop", "(I)I"⟩, 8) := ⟨⟨by decide +kernel, by decide +kernel⟩, List.mem_of_getElem? (i := 48) (by decide +kernel), List.mem_of_getElem? (i := 459) (by decide +kernel), List.mem_of_getElem? (i := 460) (by decide +kernel)⟩
theorem lw_p11 : lw_okq (⟨"RouteStrides$Tape", "isStrides", "()Z"⟩, 4) := ⟨⟨by decide +kernel, by decide +kernel⟩, List.mem_of_getElem? (i := 27) (by decide +kernel), List.mem_of_getElem? (i := 463) (by decide +kernel), List.mem_of_getElem? (i := 464) (by decide +kernel)⟩
theorem lw_p12 : lw_okq (⟨"RouteStrides$Tape", "readStrides", "(LRouteStrides$Table;)V"⟩, 4) := ⟨⟨by decide +kernel, by decide +kernel⟩, List.mem_of_getElem? (i := 27) (by decide +kernel), List.mem_of_getElem? (i := 516) (by decide +kernel), List.mem_of_getElem? (i := 517) (by decide +kernel)⟩
theorem lw_p13 : lw_okq (⟨"RouteStrides$Tape", "atEnd", "()Z"⟩, 4) := ⟨⟨by decide +kernel, by decide +kernel⟩, List.mem_of_getElem? (i := 27) (by decide +kernel), List.mem_of_getElem? (i := 520) (by decide +kernel), List.mem_of_getElem? (i := 521) (by decide +kernel)⟩
theorem lw_p14 : lw_okq (⟨"RouteStrides", "forgetActs", "()V"⟩, 17) := ⟨⟨by decide +kernel, by decide +kernel⟩, List.mem_of_getElem? (i := 19) (by decide +kernel), List.mem_of_getElem? (i := 532) (by decide +kernel), List.mem_of_getElem? (i := 533) (by decide +kernel)⟩
theorem lw_p15 : lw_okq (⟨"RouteStrides", "stateOf", "(III)I"⟩, 17) := ⟨⟨by decide +kernel, by decide +kernel⟩, List.mem_of_getElem? (i := 19) (by decide +kernel), List.mem_of_getElem? (i := 553) (by decide +kernel), List.mem_of_getElem? (i := 554) (by decide +kernel)⟩
def lw_privs_1 : List (MethodName × Nat) := [(⟨"RouteStrides$Table", "takeFirstStrides", "()V"⟩, 8), (⟨"RouteStrides$Tape", "readLine", "(LRouteStrides$Table;)V"⟩, 4), (⟨"RouteStrides$Tape", "nextSign", "()I"⟩, 4), (⟨"RouteStrides$Tape", "signAt", "(I)I"⟩, 4), (⟨"RouteStrides$Tape", "readRule", "(LRouteStrides$Table;)V"⟩, 4), (⟨"RouteStrides$Tape", "expect", "(C)V"⟩, 4), (⟨"RouteStrides$Tape", "fail", "(II)V"⟩, 4), (⟨"RouteStrides$Tape", "readNumber", "(I)I"⟩, 4), (⟨"RouteStrides$Table", "release", "(I)V"⟩, 8), (⟨"RouteStrides$Table", "makeRoom", "(JI)I"⟩, 8), (⟨"RouteStrides$Table", "takeHop", "(I)I"⟩, 8), (⟨"RouteStrides$Tape", "isStrides", "()Z"⟩, 4), (⟨"RouteStrides$Tape", "readStrides", "(LRouteStrides$Table;)V"⟩, 4), (⟨"RouteStrides$Tape", "atEnd", "()Z"⟩, 4), (⟨"RouteStrides", "forgetActs", "()V"⟩, 17), (⟨"RouteStrides", "stateOf", "(III)I"⟩, 17)]
theorem lw_r1 : ∀ q ∈ lw_privs_1, lw_okq q := List.forall_mem_cons.mpr ⟨lw_p0, List.forall_mem_cons.mpr ⟨lw_p1, List.forall_mem_cons.mpr ⟨lw_p2, List.forall_mem_cons.mpr ⟨lw_p3, List.forall_mem_cons.mpr ⟨lw_p4, List.forall_mem_cons.mpr ⟨lw_p5, List.forall_mem_cons.mpr ⟨lw_p6, List.forall_mem_cons.mpr ⟨lw_p7, List.forall_mem_cons.mpr ⟨lw_p8, List.forall_mem_cons.mpr ⟨lw_p9, List.forall_mem_cons.mpr ⟨lw_p10, List.forall_mem_cons.mpr ⟨lw_p11, List.forall_mem_cons.mpr ⟨lw_p12, List.forall_mem_cons.mpr ⟨lw_p13, List.forall_mem_cons.mpr ⟨lw_p14, List.forall_mem_cons.mpr ⟨lw_p15, fun _ h => absurd h List.not_mem_nil⟩⟩⟩⟩⟩⟩⟩⟩⟩⟩⟩⟩⟩⟩⟩⟩
theorem lw_p16 : lw_okq (⟨"RouteStrides", "beginAct", "()V"⟩, 17) := ⟨⟨by decide +kernel, by decide +kernel⟩, List.mem_of_getElem? (i := 19) (by decide +kernel), List.mem_of_getElem? (i := 559) (by decide +kernel), List.mem_of_getElem? (i := 560) (by decide +kernel)⟩
theorem lw_p17 : lw_okq (⟨"RouteStrides", "dropOldestAct", "()V"⟩, 17) := ⟨⟨by decide +kernel, by decide +kernel⟩, List.mem_of_getElem? (i := 19) (by decide +kernel), List.mem_of_getElem? (i := 563) (by decide +kernel), List.mem_of_getElem? (i := 564) (by decide +kernel)⟩
theorem lw_p18 : lw_okq (⟨"RouteStrides$Table", "turnStrides", "()V"⟩, 8) := ⟨⟨by decide +kernel, by decide +kernel⟩, List.mem_of_getElem? (i := 48) (by decide +kernel), List.mem_of_getElem? (i := 597) (by decide +kernel), List.mem_of_getElem? (i := 598) (by decide +kernel)⟩
theorem lw_p19 : lw_okq (⟨"RouteStrides", "seeFewest", "()V"⟩, 17) := ⟨⟨by decide +kernel, by decide +kernel⟩, List.mem_of_getElem? (i := 19) (by decide +kernel), List.mem_of_getElem? (i := 610) (by decide +kernel), List.mem_of_getElem? (i := 611) (by decide +kernel)⟩
theorem lw_p20 : lw_okq (⟨"RouteStrides", "seeSpans", "()V"⟩, 17) := ⟨⟨by decide +kernel, by decide +kernel⟩, List.mem_of_getElem? (i := 19) (by decide +kernel), List.mem_of_getElem? (i := 614) (by decide +kernel), List.mem_of_getElem? (i := 615) (by decide +kernel)⟩
theorem lw_p21 : lw_okq (⟨"RouteStrides$Spans", "closeAhead", "(JLRouteStrides$Table;)V"⟩, 10) := ⟨⟨by decide +kernel, by decide +kernel⟩, List.mem_of_getElem? (i := 102) (by decide +kernel), List.mem_of_getElem? (i := 622) (by decide +kernel), List.mem_of_getElem? (i := 623) (by decide +kernel)⟩
theorem lw_p22 : lw_okq (⟨"RouteStrides$Spans", "innermost", "()I"⟩, 10) := ⟨⟨by decide +kernel, by decide +kernel⟩, List.mem_of_getElem? (i := 102) (by decide +kernel), List.mem_of_getElem? (i := 626) (by decide +kernel), List.mem_of_getElem? (i := 627) (by decide +kernel)⟩
theorem lw_p23 : lw_okq (⟨"RouteStrides$Spans", "emit", "(IJLRouteStrides$Table;)V"⟩, 10) := ⟨⟨by decide +kernel, by decide +kernel⟩, List.mem_of_getElem? (i := 102) (by decide +kernel), List.mem_of_getElem? (i := 631) (by decide +kernel), List.mem_of_getElem? (i := 632) (by decide +kernel)⟩
theorem lw_p24 : lw_okq (⟨"RouteStrides$Fewest", "part", "(LRouteStrides$Spans;JII)I"⟩, 7) := ⟨⟨by decide +kernel, by decide +kernel⟩, List.mem_of_getElem? (i := 240) (by decide +kernel), List.mem_of_getElem? (i := 641) (by decide +kernel), List.mem_of_getElem? (i := 642) (by decide +kernel)⟩
theorem lw_p25 : lw_okq (⟨"RouteStrides$Fewest", "hand", "(IJII)V"⟩, 7) := ⟨⟨by decide +kernel, by decide +kernel⟩, List.mem_of_getElem? (i := 240) (by decide +kernel), List.mem_of_getElem? (i := 652) (by decide +kernel), List.mem_of_getElem? (i := 653) (by decide +kernel)⟩
theorem lw_p26 : lw_okq (⟨"RouteStrides$Fewest", "append", "(JII)V"⟩, 7) := ⟨⟨by decide +kernel, by decide +kernel⟩, List.mem_of_getElem? (i := 240) (by decide +kernel), List.mem_of_getElem? (i := 665) (by decide +kernel), List.mem_of_getElem? (i := 666) (by decide +kernel)⟩
theorem lw_p27 : lw_okq (⟨"RouteStrides", "isKept", "(I)Z"⟩, 17) := ⟨⟨by decide +kernel, by decide +kernel⟩, List.mem_of_getElem? (i := 19) (by decide +kernel), List.mem_of_getElem? (i := 693) (by decide +kernel), List.mem_of_getElem? (i := 694) (by decide +kernel)⟩
theorem lw_p28 : lw_okq (⟨"RouteStrides", "lookAtRules", "(II)I"⟩, 17) := ⟨⟨by decide +kernel, by decide +kernel⟩, List.mem_of_getElem? (i := 19) (by decide +kernel), List.mem_of_getElem? (i := 706) (by decide +kernel), List.mem_of_getElem? (i := 707) (by decide +kernel)⟩
theorem lw_p29 : lw_okq (⟨"RouteStrides", "seeNodes", "()V"⟩, 17) := ⟨⟨by decide +kernel, by decide +kernel⟩, List.mem_of_getElem? (i := 19) (by decide +kernel), List.mem_of_getElem? (i := 710) (by decide +kernel), List.mem_of_getElem? (i := 711) (by decide +kernel)⟩
theorem lw_p30 : lw_okq (⟨"RouteStrides$Nodes", "append", "(JIII)V"⟩, 18) := ⟨⟨by decide +kernel, by decide +kernel⟩, List.mem_of_getElem? (i := 152) (by decide +kernel), List.mem_of_getElem? (i := 719) (by decide +kernel), List.mem_of_getElem? (i := 720) (by decide +kernel)⟩
theorem lw_p31 : lw_okq (⟨"RouteStrides$Nodes", "fill", "(IILRouteStrides$Spans;)V"⟩, 18) := ⟨⟨by decide +kernel, by decide +kernel⟩, List.mem_of_getElem? (i := 152) (by decide +kernel), List.mem_of_getElem? (i := 723) (by decide +kernel), List.mem_of_getElem? (i := 724) (by decide +kernel)⟩
def lw_privs_2 : List (MethodName × Nat) := [(⟨"RouteStrides", "beginAct", "()V"⟩, 17), (⟨"RouteStrides", "dropOldestAct", "()V"⟩, 17), (⟨"RouteStrides$Table", "turnStrides", "()V"⟩, 8), (⟨"RouteStrides", "seeFewest", "()V"⟩, 17), (⟨"RouteStrides", "seeSpans", "()V"⟩, 17), (⟨"RouteStrides$Spans", "closeAhead", "(JLRouteStrides$Table;)V"⟩, 10), (⟨"RouteStrides$Spans", "innermost", "()I"⟩, 10), (⟨"RouteStrides$Spans", "emit", "(IJLRouteStrides$Table;)V"⟩, 10), (⟨"RouteStrides$Fewest", "part", "(LRouteStrides$Spans;JII)I"⟩, 7), (⟨"RouteStrides$Fewest", "hand", "(IJII)V"⟩, 7), (⟨"RouteStrides$Fewest", "append", "(JII)V"⟩, 7), (⟨"RouteStrides", "isKept", "(I)Z"⟩, 17), (⟨"RouteStrides", "lookAtRules", "(II)I"⟩, 17), (⟨"RouteStrides", "seeNodes", "()V"⟩, 17), (⟨"RouteStrides$Nodes", "append", "(JIII)V"⟩, 18), (⟨"RouteStrides$Nodes", "fill", "(IILRouteStrides$Spans;)V"⟩, 18)]
theorem lw_r2 : ∀ q ∈ lw_privs_2, lw_okq q := List.forall_mem_cons.mpr ⟨lw_p16, List.forall_mem_cons.mpr ⟨lw_p17, List.forall_mem_cons.mpr ⟨lw_p18, List.forall_mem_cons.mpr ⟨lw_p19, List.forall_mem_cons.mpr ⟨lw_p20, List.forall_mem_cons.mpr ⟨lw_p21, List.forall_mem_cons.mpr ⟨lw_p22, List.forall_mem_cons.mpr ⟨lw_p23, List.forall_mem_cons.mpr ⟨lw_p24, List.forall_mem_cons.mpr ⟨lw_p25, List.forall_mem_cons.mpr ⟨lw_p26, List.forall_mem_cons.mpr ⟨lw_p27, List.forall_mem_cons.mpr ⟨lw_p28, List.forall_mem_cons.mpr ⟨lw_p29, List.forall_mem_cons.mpr ⟨lw_p30, List.forall_mem_cons.mpr ⟨lw_p31, fun _ h => absurd h List.not_mem_nil⟩⟩⟩⟩⟩⟩⟩⟩⟩⟩⟩⟩⟩⟩⟩⟩
theorem lw_p32 : lw_okq (⟨"RouteStrides$Nodes", "store", "(II)V"⟩, 18) := ⟨⟨by decide +kernel, by decide +kernel⟩, List.mem_of_getElem? (i := 152) (by decide +kernel), List.mem_of_getElem? (i := 728) (by decide +kernel), List.mem_of_getElem? (i := 729) (by decide +kernel)⟩
theorem lw_p33 : lw_okq (⟨"RouteStrides$Nodes", "slotOf", "(JI)I"⟩, 18) := ⟨⟨by decide +kernel, by decide +kernel⟩, List.mem_of_getElem? (i := 152) (by decide +kernel), List.mem_of_getElem? (i := 743) (by decide +kernel), List.mem_of_getElem? (i := 744) (by decide +kernel)⟩
theorem lw_p34 : lw_okq (⟨"RouteStrides$Nodes", "placeAt", "(II)I"⟩, 18) := ⟨⟨by decide +kernel, by decide +kernel⟩, List.mem_of_getElem? (i := 152) (by decide +kernel), List.mem_of_getElem? (i := 760) (by decide +kernel), List.mem_of_getElem? (i := 761) (by decide +kernel)⟩
theorem lw_p35 : lw_okq (⟨"RouteStrides", "touchedAgainst", "(LRouteStrides$Table;)I"⟩, 17) := ⟨⟨by decide +kernel, by decide +kernel⟩, List.mem_of_getElem? (i := 19) (by decide +kernel), List.mem_of_getElem? (i := 773) (by decide +kernel), List.mem_of_getElem? (i := 774) (by decide +kernel)⟩
theorem lw_p36 : lw_okq (⟨"RouteStrides$Nodes", "orderOf", "(ILRouteStrides$Nodes;I)J"⟩, 18) := ⟨⟨by decide +kernel, by decide +kernel⟩, List.mem_of_getElem? (i := 152) (by decide +kernel), List.mem_of_getElem? (i := 781) (by decide +kernel), List.mem_of_getElem? (i := 782) (by decide +kernel)⟩
theorem lw_p37 : lw_okq (⟨"RouteStrides", "seeKinds", "()V"⟩, 17) := ⟨⟨by decide +kernel, by decide +kernel⟩, List.mem_of_getElem? (i := 19) (by decide +kernel), List.mem_of_getElem? (i := 861) (by decide +kernel), List.mem_of_getElem? (i := 862) (by decide +kernel)⟩
theorem lw_p38 : lw_okq (⟨"RouteStrides$Kinds", "kindOf", "(LRouteStrides$Nodes;I)I"⟩, 3) := ⟨⟨by decide +kernel, by decide +kernel⟩, List.mem_of_getElem? (i := 223) (by decide +kernel), List.mem_of_getElem? (i := 877) (by decide +kernel), List.mem_of_getElem? (i := 878) (by decide +kernel)⟩
theorem lw_p39 : lw_okq (⟨"RouteStrides$Kinds", "rowOf", "(LRouteStrides$Nodes;I)I"⟩, 3) := ⟨⟨by decide +kernel, by decide +kernel⟩, List.mem_of_getElem? (i := 223) (by decide +kernel), List.mem_of_getElem? (i := 881) (by decide +kernel), List.mem_of_getElem? (i := 882) (by decide +kernel)⟩
theorem lw_p40 : lw_okq (⟨"RouteStrides$Kinds", "kindOfChild", "(LRouteStrides$Nodes;II)I"⟩, 3) := ⟨⟨by decide +kernel, by decide +kernel⟩, List.mem_of_getElem? (i := 223) (by decide +kernel), List.mem_of_getElem? (i := 889) (by decide +kernel), List.mem_of_getElem? (i := 890) (by decide +kernel)⟩
theorem lw_p41 : lw_okq (⟨"RouteStrides$Kinds", "leadToLike", "(LRouteStrides$Nodes;II)Z"⟩, 3) := ⟨⟨by decide +kernel, by decide +kernel⟩, List.mem_of_getElem? (i := 223) (by decide +kernel), List.mem_of_getElem? (i := 895) (by decide +kernel), List.mem_of_getElem? (i := 896) (by decide +kernel)⟩
theorem lw_p42 : lw_okq (⟨"RouteStrides", "seeCosts", "()V"⟩, 17) := ⟨⟨by decide +kernel, by decide +kernel⟩, List.mem_of_getElem? (i := 19) (by decide +kernel), List.mem_of_getElem? (i := 934) (by decide +kernel), List.mem_of_getElem? (i := 935) (by decide +kernel)⟩
theorem lw_p43 : lw_okq (⟨"RouteStrides$Costs", "fewestSlots", "(II)J"⟩, 2) := ⟨⟨by decide +kernel, by decide +kernel⟩, List.mem_of_getElem? (i := 276) (by decide +kernel), List.mem_of_getElem? (i := 948) (by decide +kernel), List.mem_of_getElem? (i := 949) (by decide +kernel)⟩
theorem lw_p44 : lw_okq (⟨"RouteStrides$Costs", "slotsWith", "(III)J"⟩, 2) := ⟨⟨by decide +kernel, by decide +kernel⟩, List.mem_of_getElem? (i := 276) (by decide +kernel), List.mem_of_getElem? (i := 952) (by decide +kernel), List.mem_of_getElem? (i := 953) (by decide +kernel)⟩
theorem lw_p45 : lw_okq (⟨"RouteStrides", "touchedByLastAct", "()I"⟩, 17) := ⟨⟨by decide +kernel, by decide +kernel⟩, List.mem_of_getElem? (i := 19) (by decide +kernel), List.mem_of_getElem? (i := 1002) (by decide +kernel), List.mem_of_getElem? (i := 1003) (by decide +kernel)⟩
theorem lw_p46 : lw_okq (⟨"RouteStridesModel", "startsAnew", "()V"⟩, 52) := ⟨⟨by decide +kernel, by decide +kernel⟩, List.mem_of_getElem? (i := 1010) (by decide +kernel), List.mem_of_getElem? (i := 1017) (by decide +kernel), List.mem_of_getElem? (i := 1018) (by decide +kernel)⟩
theorem lw_p47 : lw_okq (⟨"RouteStridesModel", "laysTable", "(I[II)V"⟩, 52) := ⟨⟨by decide +kernel, by decide +kernel⟩, List.mem_of_getElem? (i := 1010) (by decide +kernel), List.mem_of_getElem? (i := 1021) (by decide +kernel), List.mem_of_getElem? (i := 1022) (by decide +kernel)⟩
def lw_privs_3 : List (MethodName × Nat) := [(⟨"RouteStrides$Nodes", "store", "(II)V"⟩, 18), (⟨"RouteStrides$Nodes", "slotOf", "(JI)I"⟩, 18), (⟨"RouteStrides$Nodes", "placeAt", "(II)I"⟩, 18), (⟨"RouteStrides", "touchedAgainst", "(LRouteStrides$Table;)I"⟩, 17), (⟨"RouteStrides$Nodes", "orderOf", "(ILRouteStrides$Nodes;I)J"⟩, 18), (⟨"RouteStrides", "seeKinds", "()V"⟩, 17), (⟨"RouteStrides$Kinds", "kindOf", "(LRouteStrides$Nodes;I)I"⟩, 3), (⟨"RouteStrides$Kinds", "rowOf", "(LRouteStrides$Nodes;I)I"⟩, 3), (⟨"RouteStrides$Kinds", "kindOfChild", "(LRouteStrides$Nodes;II)I"⟩, 3), (⟨"RouteStrides$Kinds", "leadToLike", "(LRouteStrides$Nodes;II)Z"⟩, 3), (⟨"RouteStrides", "seeCosts", "()V"⟩, 17), (⟨"RouteStrides$Costs", "fewestSlots", "(II)J"⟩, 2), (⟨"RouteStrides$Costs", "slotsWith", "(III)J"⟩, 2), (⟨"RouteStrides", "touchedByLastAct", "()I"⟩, 17), (⟨"RouteStridesModel", "startsAnew", "()V"⟩, 52), (⟨"RouteStridesModel", "laysTable", "(I[II)V"⟩, 52)]
theorem lw_r3 : ∀ q ∈ lw_privs_3, lw_okq q := List.forall_mem_cons.mpr ⟨lw_p32, List.forall_mem_cons.mpr ⟨lw_p33, List.forall_mem_cons.mpr ⟨lw_p34, List.forall_mem_cons.mpr ⟨lw_p35, List.forall_mem_cons.mpr ⟨lw_p36, List.forall_mem_cons.mpr ⟨lw_p37, List.forall_mem_cons.mpr ⟨lw_p38, List.forall_mem_cons.mpr ⟨lw_p39, List.forall_mem_cons.mpr ⟨lw_p40, List.forall_mem_cons.mpr ⟨lw_p41, List.forall_mem_cons.mpr ⟨lw_p42, List.forall_mem_cons.mpr ⟨lw_p43, List.forall_mem_cons.mpr ⟨lw_p44, List.forall_mem_cons.mpr ⟨lw_p45, List.forall_mem_cons.mpr ⟨lw_p46, List.forall_mem_cons.mpr ⟨lw_p47, fun _ h => absurd h List.not_mem_nil⟩⟩⟩⟩⟩⟩⟩⟩⟩⟩⟩⟩⟩⟩⟩⟩
theorem lw_p48 : lw_okq (⟨"RouteStridesModel", "laysPlaces", "([II)V"⟩, 52) := ⟨⟨by decide +kernel, by decide +kernel⟩, List.mem_of_getElem? (i := 1010) (by decide +kernel), List.mem_of_getElem? (i := 1025) (by decide +kernel), List.mem_of_getElem? (i := 1026) (by decide +kernel)⟩
theorem lw_p49 : lw_okq (⟨"RouteStridesModel", "addsPlace", "(J)V"⟩, 52) := ⟨⟨by decide +kernel, by decide +kernel⟩, List.mem_of_getElem? (i := 1010) (by decide +kernel), List.mem_of_getElem? (i := 1029) (by decide +kernel), List.mem_of_getElem? (i := 1030) (by decide +kernel)⟩
theorem lw_p50 : lw_okq (⟨"RouteStridesModel", "laysNodes", "()V"⟩, 52) := ⟨⟨by decide +kernel, by decide +kernel⟩, List.mem_of_getElem? (i := 1010) (by decide +kernel), List.mem_of_getElem? (i := 1056) (by decide +kernel), List.mem_of_getElem? (i := 1057) (by decide +kernel)⟩
theorem lw_p51 : lw_okq (⟨"RouteStridesModel", "addsNode", "(IJ)V"⟩, 52) := ⟨⟨by decide +kernel, by decide +kernel⟩, List.mem_of_getElem? (i := 1010) (by decide +kernel), List.mem_of_getElem? (i := 1060) (by decide +kernel), List.mem_of_getElem? (i := 1061) (by decide +kernel)⟩
theorem lw_p52 : lw_okq (⟨"RouteStridesModel", "lengthAt", "(II)I"⟩, 52) := ⟨⟨by decide +kernel, by decide +kernel⟩, List.mem_of_getElem? (i := 1010) (by decide +kernel), List.mem_of_getElem? (i := 1064) (by decide +kernel), List.mem_of_getElem? (i := 1065) (by decide +kernel)⟩
theorem lw_p53 : lw_okq (⟨"RouteStridesModel", "isLaidAnew", "()V"⟩, 52) := ⟨⟨by decide +kernel, by decide +kernel⟩, List.mem_of_getElem? (i := 1010) (by decide +kernel), List.mem_of_getElem? (i := 1230) (by decide +kernel), List.mem_of_getElem? (i := 1231) (by decide +kernel)⟩
theorem lw_p54 : lw_okq (⟨"RouteStridesModel", "hasIt", "(JII)Z"⟩, 52) := ⟨⟨by decide +kernel, by decide +kernel⟩, List.mem_of_getElem? (i := 1010) (by decide +kernel), List.mem_of_getElem? (i := 1258) (by decide +kernel), List.mem_of_getElem? (i := 1259) (by decide +kernel)⟩
theorem lw_p55 : lw_okq (⟨"RouteStridesModel", "find", "(JI)I"⟩, 52) := ⟨⟨by decide +kernel, by decide +kernel⟩, List.mem_of_getElem? (i := 1010) (by decide +kernel), List.mem_of_getElem? (i := 1262) (by decide +kernel), List.mem_of_getElem? (i := 1263) (by decide +kernel)⟩
theorem lw_p56 : lw_okq (⟨"RouteStridesModel", "valueOf", "(I)J"⟩, 52) := ⟨⟨by decide +kernel, by decide +kernel⟩, List.mem_of_getElem? (i := 1010) (by decide +kernel), List.mem_of_getElem? (i := 1266) (by decide +kernel), List.mem_of_getElem? (i := 1267) (by decide +kernel)⟩
theorem lw_p57 : lw_okq (⟨"RouteStridesModel", "keepsAct", "()V"⟩, 52) := ⟨⟨by decide +kernel, by decide +kernel⟩, List.mem_of_getElem? (i := 1010) (by decide +kernel), List.mem_of_getElem? (i := 1270) (by decide +kernel), List.mem_of_getElem? (i := 1271) (by decide +kernel)⟩
theorem lw_p58 : lw_okq (⟨"RouteStridesModel", "puts", "(JII)I"⟩, 52) := ⟨⟨by decide +kernel, by decide +kernel⟩, List.mem_of_getElem? (i := 1010) (by decide +kernel), List.mem_of_getElem? (i := 1274) (by decide +kernel), List.mem_of_getElem? (i := 1275) (by decide +kernel)⟩
theorem lw_p59 : lw_okq (⟨"RouteStridesModel", "isAhead", "(IJI)Z"⟩, 52) := ⟨⟨by decide +kernel, by decide +kernel⟩, List.mem_of_getElem? (i := 1010) (by decide +kernel), List.mem_of_getElem? (i := 1278) (by decide +kernel), List.mem_of_getElem? (i := 1279) (by decide +kernel)⟩
theorem lw_p60 : lw_okq (⟨"RouteStridesModel", "copies", "(II)V"⟩, 52) := ⟨⟨by decide +kernel, by decide +kernel⟩, List.mem_of_getElem? (i := 1010) (by decide +kernel), List.mem_of_getElem? (i := 1282) (by decide +kernel), List.mem_of_getElem? (i := 1283) (by decide +kernel)⟩
theorem lw_p61 : lw_okq (⟨"RouteStridesModel", "frees", "(I)V"⟩, 52) := ⟨⟨by decide +kernel, by decide +kernel⟩, List.mem_of_getElem? (i := 1010) (by decide +kernel), List.mem_of_getElem? (i := 1286) (by decide +kernel), List.mem_of_getElem? (i := 1287) (by decide +kernel)⟩
theorem lw_p62 : lw_okq (⟨"RouteStridesModel", "rulesOf", "(I)I"⟩, 52) := ⟨⟨by decide +kernel, by decide +kernel⟩, List.mem_of_getElem? (i := 1010) (by decide +kernel), List.mem_of_getElem? (i := 1290) (by decide +kernel), List.mem_of_getElem? (i := 1291) (by decide +kernel)⟩
theorem lw_p63 : lw_okq (⟨"RouteStridesModel", "hopFor", "(I)I"⟩, 52) := ⟨⟨by decide +kernel, by decide +kernel⟩, List.mem_of_getElem? (i := 1010) (by decide +kernel), List.mem_of_getElem? (i := 1294) (by decide +kernel), List.mem_of_getElem? (i := 1295) (by decide +kernel)⟩
def lw_privs_4 : List (MethodName × Nat) := [(⟨"RouteStridesModel", "laysPlaces", "([II)V"⟩, 52), (⟨"RouteStridesModel", "addsPlace", "(J)V"⟩, 52), (⟨"RouteStridesModel", "laysNodes", "()V"⟩, 52), (⟨"RouteStridesModel", "addsNode", "(IJ)V"⟩, 52), (⟨"RouteStridesModel", "lengthAt", "(II)I"⟩, 52), (⟨"RouteStridesModel", "isLaidAnew", "()V"⟩, 52), (⟨"RouteStridesModel", "hasIt", "(JII)Z"⟩, 52), (⟨"RouteStridesModel", "find", "(JI)I"⟩, 52), (⟨"RouteStridesModel", "valueOf", "(I)J"⟩, 52), (⟨"RouteStridesModel", "keepsAct", "()V"⟩, 52), (⟨"RouteStridesModel", "puts", "(JII)I"⟩, 52), (⟨"RouteStridesModel", "isAhead", "(IJI)Z"⟩, 52), (⟨"RouteStridesModel", "copies", "(II)V"⟩, 52), (⟨"RouteStridesModel", "frees", "(I)V"⟩, 52), (⟨"RouteStridesModel", "rulesOf", "(I)I"⟩, 52), (⟨"RouteStridesModel", "hopFor", "(I)I"⟩, 52)]
theorem lw_r4 : ∀ q ∈ lw_privs_4, lw_okq q := List.forall_mem_cons.mpr ⟨lw_p48, List.forall_mem_cons.mpr ⟨lw_p49, List.forall_mem_cons.mpr ⟨lw_p50, List.forall_mem_cons.mpr ⟨lw_p51, List.forall_mem_cons.mpr ⟨lw_p52, List.forall_mem_cons.mpr ⟨lw_p53, List.forall_mem_cons.mpr ⟨lw_p54, List.forall_mem_cons.mpr ⟨lw_p55, List.forall_mem_cons.mpr ⟨lw_p56, List.forall_mem_cons.mpr ⟨lw_p57, List.forall_mem_cons.mpr ⟨lw_p58, List.forall_mem_cons.mpr ⟨lw_p59, List.forall_mem_cons.mpr ⟨lw_p60, List.forall_mem_cons.mpr ⟨lw_p61, List.forall_mem_cons.mpr ⟨lw_p62, List.forall_mem_cons.mpr ⟨lw_p63, fun _ h => absurd h List.not_mem_nil⟩⟩⟩⟩⟩⟩⟩⟩⟩⟩⟩⟩⟩⟩⟩⟩
theorem lw_p64 : lw_okq (⟨"RouteStridesModel", "hopOf", "(I)I"⟩, 52) := ⟨⟨by decide +kernel, by decide +kernel⟩, List.mem_of_getElem? (i := 1010) (by decide +kernel), List.mem_of_getElem? (i := 1298) (by decide +kernel), List.mem_of_getElem? (i := 1299) (by decide +kernel)⟩
theorem lw_p65 : lw_okq (⟨"RouteStridesModel", "isDone", "()V"⟩, 52) := ⟨⟨by decide +kernel, by decide +kernel⟩, List.mem_of_getElem? (i := 1010) (by decide +kernel), List.mem_of_getElem? (i := 1302) (by decide +kernel), List.mem_of_getElem? (i := 1303) (by decide +kernel)⟩
theorem lw_p66 : lw_okq (⟨"RouteStridesModel", "othersNow", "()I"⟩, 52) := ⟨⟨by decide +kernel, by decide +kernel⟩, List.mem_of_getElem? (i := 1010) (by decide +kernel), List.mem_of_getElem? (i := 1306) (by decide +kernel), List.mem_of_getElem? (i := 1307) (by decide +kernel)⟩
theorem lw_p67 : lw_okq (⟨"RouteStridesModel", "hasNode", "(IIJ)Z"⟩, 52) := ⟨⟨by decide +kernel, by decide +kernel⟩, List.mem_of_getElem? (i := 1010) (by decide +kernel), List.mem_of_getElem? (i := 1310) (by decide +kernel), List.mem_of_getElem? (i := 1311) (by decide +kernel)⟩
theorem lw_p68 : lw_okq (⟨"RouteStridesModel", "isOne", "(IJJ)Z"⟩, 52) := ⟨⟨by decide +kernel, by decide +kernel⟩, List.mem_of_getElem? (i := 1010) (by decide +kernel), List.mem_of_getElem? (i := 1314) (by decide +kernel), List.mem_of_getElem? (i := 1315) (by decide +kernel)⟩
theorem lw_p69 : lw_okq (⟨"RouteStridesModel", "rowAt", "(IJ)I"⟩, 52) := ⟨⟨by decide +kernel, by decide +kernel⟩, List.mem_of_getElem? (i := 1010) (by decide +kernel), List.mem_of_getElem? (i := 1318) (by decide +kernel), List.mem_of_getElem? (i := 1319) (by decide +kernel)⟩
theorem lw_p70 : lw_okq (⟨"RouteStridesModel", "behindRow", "(II)J"⟩, 52) := ⟨⟨by decide +kernel, by decide +kernel⟩, List.mem_of_getElem? (i := 1010) (by decide +kernel), List.mem_of_getElem? (i := 1322) (by decide +kernel), List.mem_of_getElem? (i := 1323) (by decide +kernel)⟩
theorem lw_p71 : lw_okq (⟨"RouteStridesModel", "isUnlike", "(IJ)Z"⟩, 52) := ⟨⟨by decide +kernel, by decide +kernel⟩, List.mem_of_getElem? (i := 1010) (by decide +kernel), List.mem_of_getElem? (i := 1326) (by decide +kernel), List.mem_of_getElem? (i := 1327) (by decide +kernel)⟩
theorem lw_p72 : lw_okq (⟨"RouteStridesModel", "reads", "(IIJ)V"⟩, 52) := ⟨⟨by decide +kernel, by decide +kernel⟩, List.mem_of_getElem? (i := 1010) (by decide +kernel), List.mem_of_getElem? (i := 1330) (by decide +kernel), List.mem_of_getElem? (i := 1331) (by decide +kernel)⟩
theorem lw_p73 : lw_okq (⟨"RouteStridesModel", "slotSize", "(II)J"⟩, 52) := ⟨⟨by decide +kernel, by decide +kernel⟩, List.mem_of_getElem? (i := 1010) (by decide +kernel), List.mem_of_getElem? (i := 1334) (by decide +kernel), List.mem_of_getElem? (i := 1335) (by decide +kernel)⟩
theorem lw_p74 : lw_okq (⟨"RouteStridesModel", "slotsAt", "(II)I"⟩, 52) := ⟨⟨by decide +kernel, by decide +kernel⟩, List.mem_of_getElem? (i := 1010) (by decide +kernel), List.mem_of_getElem? (i := 1338) (by decide +kernel), List.mem_of_getElem? (i := 1339) (by decide +kernel)⟩
theorem lw_p75 : lw_okq (⟨"RouteStridesModel", "codeAt", "(IJ)I"⟩, 52) := ⟨⟨by decide +kernel, by decide +kernel⟩, List.mem_of_getElem? (i := 1010) (by decide +kernel), List.mem_of_getElem? (i := 1342) (by decide +kernel), List.mem_of_getElem? (i := 1343) (by decide +kernel)⟩
theorem lw_p76 : lw_okq (⟨"RouteStridesModel", "goneNow", "()I"⟩, 52) := ⟨⟨by decide +kernel, by decide +kernel⟩, List.mem_of_getElem? (i := 1010) (by decide +kernel), List.mem_of_getElem? (i := 1346) (by decide +kernel), List.mem_of_getElem? (i := 1347) (by decide +kernel)⟩
theorem lw_p77 : lw_okq (⟨"RouteStridesModel", "drops", "(I)V"⟩, 52) := ⟨⟨by decide +kernel, by decide +kernel⟩, List.mem_of_getElem? (i := 1010) (by decide +kernel), List.mem_of_getElem? (i := 1355) (by decide +kernel), List.mem_of_getElem? (i := 1356) (by decide +kernel)⟩
theorem lw_p78 : lw_okq (⟨"RouteStridesModel", "covers", "(II)Z"⟩, 52) := ⟨⟨by decide +kernel, by decide +kernel⟩, List.mem_of_getElem? (i := 1010) (by decide +kernel), List.mem_of_getElem? (i := 1367) (by decide +kernel), List.mem_of_getElem? (i := 1368) (by decide +kernel)⟩
theorem lw_p79 : lw_okq (⟨"RouteStridesModel", "readsDigits", "(J)Z"⟩, 52) := ⟨⟨by decide +kernel, by decide +kernel⟩, List.mem_of_getElem? (i := 1010) (by decide +kernel), List.mem_of_getElem? (i := 1380) (by decide +kernel), List.mem_of_getElem? (i := 1381) (by decide +kernel)⟩
def lw_privs_5 : List (MethodName × Nat) := [(⟨"RouteStridesModel", "hopOf", "(I)I"⟩, 52), (⟨"RouteStridesModel", "isDone", "()V"⟩, 52), (⟨"RouteStridesModel", "othersNow", "()I"⟩, 52), (⟨"RouteStridesModel", "hasNode", "(IIJ)Z"⟩, 52), (⟨"RouteStridesModel", "isOne", "(IJJ)Z"⟩, 52), (⟨"RouteStridesModel", "rowAt", "(IJ)I"⟩, 52), (⟨"RouteStridesModel", "behindRow", "(II)J"⟩, 52), (⟨"RouteStridesModel", "isUnlike", "(IJ)Z"⟩, 52), (⟨"RouteStridesModel", "reads", "(IIJ)V"⟩, 52), (⟨"RouteStridesModel", "slotSize", "(II)J"⟩, 52), (⟨"RouteStridesModel", "slotsAt", "(II)I"⟩, 52), (⟨"RouteStridesModel", "codeAt", "(IJ)I"⟩, 52), (⟨"RouteStridesModel", "goneNow", "()I"⟩, 52), (⟨"RouteStridesModel", "drops", "(I)V"⟩, 52), (⟨"RouteStridesModel", "covers", "(II)Z"⟩, 52), (⟨"RouteStridesModel", "readsDigits", "(J)Z"⟩, 52)]
theorem lw_r5 : ∀ q ∈ lw_privs_5, lw_okq q := List.forall_mem_cons.mpr ⟨lw_p64, List.forall_mem_cons.mpr ⟨lw_p65, List.forall_mem_cons.mpr ⟨lw_p66, List.forall_mem_cons.mpr ⟨lw_p67, List.forall_mem_cons.mpr ⟨lw_p68, List.forall_mem_cons.mpr ⟨lw_p69, List.forall_mem_cons.mpr ⟨lw_p70, List.forall_mem_cons.mpr ⟨lw_p71, List.forall_mem_cons.mpr ⟨lw_p72, List.forall_mem_cons.mpr ⟨lw_p73, List.forall_mem_cons.mpr ⟨lw_p74, List.forall_mem_cons.mpr ⟨lw_p75, List.forall_mem_cons.mpr ⟨lw_p76, List.forall_mem_cons.mpr ⟨lw_p77, List.forall_mem_cons.mpr ⟨lw_p78, List.forall_mem_cons.mpr ⟨lw_p79, fun _ h => absurd h List.not_mem_nil⟩⟩⟩⟩⟩⟩⟩⟩⟩⟩⟩⟩⟩⟩⟩⟩
theorem lw_p80 : lw_okq (⟨"RouteStridesModel", "addsStride", "(I)Z"⟩, 52) := ⟨⟨by decide +kernel, by decide +kernel⟩, List.mem_of_getElem? (i := 1010) (by decide +kernel), List.mem_of_getElem? (i := 1385) (by decide +kernel), List.mem_of_getElem? (i := 1386) (by decide +kernel)⟩
theorem lw_p81 : lw_okq (⟨"RouteStridesModel", "strideSum", "()I"⟩, 52) := ⟨⟨by decide +kernel, by decide +kernel⟩, List.mem_of_getElem? (i := 1010) (by decide +kernel), List.mem_of_getElem? (i := 1391) (by decide +kernel), List.mem_of_getElem? (i := 1392) (by decide +kernel)⟩
theorem lw_p82 : lw_okq (⟨"RouteStridesModel", "areStrides", "()Z"⟩, 52) := ⟨⟨by decide +kernel, by decide +kernel⟩, List.mem_of_getElem? (i := 1010) (by decide +kernel), List.mem_of_getElem? (i := 1395) (by decide +kernel), List.mem_of_getElem? (i := 1396) (by decide +kernel)⟩
theorem lw_p83 : lw_okq (⟨"RouteStridesModel", "takesStrides", "()V"⟩, 52) := ⟨⟨by decide +kernel, by decide +kernel⟩, List.mem_of_getElem? (i := 1010) (by decide +kernel), List.mem_of_getElem? (i := 1399) (by decide +kernel), List.mem_of_getElem? (i := 1400) (by decide +kernel)⟩
theorem lw_p84 : lw_okq (⟨"RouteStridesModel", "readsText", "()Z"⟩, 52) := ⟨⟨by decide +kernel, by decide +kernel⟩, List.mem_of_getElem? (i := 1010) (by decide +kernel), List.mem_of_getElem? (i := 1415) (by decide +kernel), List.mem_of_getElem? (i := 1416) (by decide +kernel)⟩
theorem lw_p85 : lw_okq (⟨"RouteStridesModel", "isStridesWord", "()Z"⟩, 52) := ⟨⟨by decide +kernel, by decide +kernel⟩, List.mem_of_getElem? (i := 1010) (by decide +kernel), List.mem_of_getElem? (i := 1419) (by decide +kernel), List.mem_of_getElem? (i := 1420) (by decide +kernel)⟩
theorem lw_p86 : lw_okq (⟨"RouteStridesModel", "next", "()I"⟩, 52) := ⟨⟨by decide +kernel, by decide +kernel⟩, List.mem_of_getElem? (i := 1010) (by decide +kernel), List.mem_of_getElem? (i := 1424) (by decide +kernel), List.mem_of_getElem? (i := 1425) (by decide +kernel)⟩
theorem lw_p87 : lw_okq (⟨"RouteStridesModel", "byteAt", "(I)I"⟩, 52) := ⟨⟨by decide +kernel, by decide +kernel⟩, List.mem_of_getElem? (i := 1010) (by decide +kernel), List.mem_of_getElem? (i := 1428) (by decide +kernel), List.mem_of_getElem? (i := 1429) (by decide +kernel)⟩
theorem lw_p88 : lw_okq (⟨"RouteStridesModel", "readsStrides", "()Z"⟩, 52) := ⟨⟨by decide +kernel, by decide +kernel⟩, List.mem_of_getElem? (i := 1010) (by decide +kernel), List.mem_of_getElem? (i := 1436) (by decide +kernel), List.mem_of_getElem? (i := 1437) (by decide +kernel)⟩
theorem lw_p89 : lw_okq (⟨"RouteStridesModel", "readsNumber", "(II)Z"⟩, 52) := ⟨⟨by decide +kernel, by decide +kernel⟩, List.mem_of_getElem? (i := 1010) (by decide +kernel), List.mem_of_getElem? (i := 1440) (by decide +kernel), List.mem_of_getElem? (i := 1441) (by decide +kernel)⟩
theorem lw_p90 : lw_okq (⟨"RouteStridesModel", "isDigitNext", "()Z"⟩, 52) := ⟨⟨by decide +kernel, by decide +kernel⟩, List.mem_of_getElem? (i := 1010) (by decide +kernel), List.mem_of_getElem? (i := 1444) (by decide +kernel), List.mem_of_getElem? (i := 1445) (by decide +kernel)⟩
theorem lw_p91 : lw_okq (⟨"RouteStridesModel", "fails", "(II)Z"⟩, 52) := ⟨⟨by decide +kernel, by decide +kernel⟩, List.mem_of_getElem? (i := 1010) (by decide +kernel), List.mem_of_getElem? (i := 1450) (by decide +kernel), List.mem_of_getElem? (i := 1451) (by decide +kernel)⟩
theorem lw_p92 : lw_okq (⟨"RouteStridesModel", "readsRule", "()Z"⟩, 52) := ⟨⟨by decide +kernel, by decide +kernel⟩, List.mem_of_getElem? (i := 1010) (by decide +kernel), List.mem_of_getElem? (i := 1454) (by decide +kernel), List.mem_of_getElem? (i := 1455) (by decide +kernel)⟩
theorem lw_p93 : lw_okq (⟨"RouteStridesModel", "readsSign", "(C)Z"⟩, 52) := ⟨⟨by decide +kernel, by decide +kernel⟩, List.mem_of_getElem? (i := 1010) (by decide +kernel), List.mem_of_getElem? (i := 1458) (by decide +kernel), List.mem_of_getElem? (i := 1459) (by decide +kernel)⟩
theorem lw_p94 : lw_okq (⟨"RouteStridesModel", "hopAt", "(J)I"⟩, 52) := ⟨⟨by decide +kernel, by decide +kernel⟩, List.mem_of_getElem? (i := 1010) (by decide +kernel), List.mem_of_getElem? (i := 1467) (by decide +kernel), List.mem_of_getElem? (i := 1468) (by decide +kernel)⟩
theorem lw_p95 : lw_okq (⟨"RouteStridesModel", "through", "(J)I"⟩, 52) := ⟨⟨by decide +kernel, by decide +kernel⟩, List.mem_of_getElem? (i := 1010) (by decide +kernel), List.mem_of_getElem? (i := 1471) (by decide +kernel), List.mem_of_getElem? (i := 1472) (by decide +kernel)⟩
def lw_privs_6 : List (MethodName × Nat) := [(⟨"RouteStridesModel", "addsStride", "(I)Z"⟩, 52), (⟨"RouteStridesModel", "strideSum", "()I"⟩, 52), (⟨"RouteStridesModel", "areStrides", "()Z"⟩, 52), (⟨"RouteStridesModel", "takesStrides", "()V"⟩, 52), (⟨"RouteStridesModel", "readsText", "()Z"⟩, 52), (⟨"RouteStridesModel", "isStridesWord", "()Z"⟩, 52), (⟨"RouteStridesModel", "next", "()I"⟩, 52), (⟨"RouteStridesModel", "byteAt", "(I)I"⟩, 52), (⟨"RouteStridesModel", "readsStrides", "()Z"⟩, 52), (⟨"RouteStridesModel", "readsNumber", "(II)Z"⟩, 52), (⟨"RouteStridesModel", "isDigitNext", "()Z"⟩, 52), (⟨"RouteStridesModel", "fails", "(II)Z"⟩, 52), (⟨"RouteStridesModel", "readsRule", "()Z"⟩, 52), (⟨"RouteStridesModel", "readsSign", "(C)Z"⟩, 52), (⟨"RouteStridesModel", "hopAt", "(J)I"⟩, 52), (⟨"RouteStridesModel", "through", "(J)I"⟩, 52)]
theorem lw_r6 : ∀ q ∈ lw_privs_6, lw_okq q := List.forall_mem_cons.mpr ⟨lw_p80, List.forall_mem_cons.mpr ⟨lw_p81, List.forall_mem_cons.mpr ⟨lw_p82, List.forall_mem_cons.mpr ⟨lw_p83, List.forall_mem_cons.mpr ⟨lw_p84, List.forall_mem_cons.mpr ⟨lw_p85, List.forall_mem_cons.mpr ⟨lw_p86, List.forall_mem_cons.mpr ⟨lw_p87, List.forall_mem_cons.mpr ⟨lw_p88, List.forall_mem_cons.mpr ⟨lw_p89, List.forall_mem_cons.mpr ⟨lw_p90, List.forall_mem_cons.mpr ⟨lw_p91, List.forall_mem_cons.mpr ⟨lw_p92, List.forall_mem_cons.mpr ⟨lw_p93, List.forall_mem_cons.mpr ⟨lw_p94, List.forall_mem_cons.mpr ⟨lw_p95, fun _ h => absurd h List.not_mem_nil⟩⟩⟩⟩⟩⟩⟩⟩⟩⟩⟩⟩⟩⟩⟩⟩
theorem lw_p96 : lw_okq (⟨"RouteStridesModel", "hasChild", "(IJ)Z"⟩, 52) := ⟨⟨by decide +kernel, by decide +kernel⟩, List.mem_of_getElem? (i := 1010) (by decide +kernel), List.mem_of_getElem? (i := 1475) (by decide +kernel), List.mem_of_getElem? (i := 1476) (by decide +kernel)⟩
theorem lw_p97 : lw_okq (⟨"RouteStridesModel", "storedPlace", "(J)I"⟩, 52) := ⟨⟨by decide +kernel, by decide +kernel⟩, List.mem_of_getElem? (i := 1010) (by decide +kernel), List.mem_of_getElem? (i := 1479) (by decide +kernel), List.mem_of_getElem? (i := 1480) (by decide +kernel)⟩
theorem lw_p98 : lw_okq (⟨"RouteStridesModel", "hopWithout", "(J)I"⟩, 52) := ⟨⟨by decide +kernel, by decide +kernel⟩, List.mem_of_getElem? (i := 1010) (by decide +kernel), List.mem_of_getElem? (i := 1483) (by decide +kernel), List.mem_of_getElem? (i := 1484) (by decide +kernel)⟩
theorem lw_p99 : lw_okq (⟨"RouteStridesModel", "nodeAt", "(IJ)I"⟩, 52) := ⟨⟨by decide +kernel, by decide +kernel⟩, List.mem_of_getElem? (i := 1010) (by decide +kernel), List.mem_of_getElem? (i := 1491) (by decide +kernel), List.mem_of_getElem? (i := 1492) (by decide +kernel)⟩
theorem lw_p100 : lw_okq (⟨"RouteStridesModel", "isRule", "(I)Z"⟩, 52) := ⟨⟨by decide +kernel, by decide +kernel⟩, List.mem_of_getElem? (i := 1010) (by decide +kernel), List.mem_of_getElem? (i := 1507) (by decide +kernel), List.mem_of_getElem? (i := 1508) (by decide +kernel)⟩
theorem lw_p101 : lw_okq (⟨"RouteStridesModel", "servedBy", "(I)J"⟩, 52) := ⟨⟨by decide +kernel, by decide +kernel⟩, List.mem_of_getElem? (i := 1010) (by decide +kernel), List.mem_of_getElem? (i := 1511) (by decide +kernel), List.mem_of_getElem? (i := 1512) (by decide +kernel)⟩
theorem lw_p102 : lw_okq (⟨"RouteStridesModel", "parentOf", "(I)I"⟩, 52) := ⟨⟨by decide +kernel, by decide +kernel⟩, List.mem_of_getElem? (i := 1010) (by decide +kernel), List.mem_of_getElem? (i := 1515) (by decide +kernel), List.mem_of_getElem? (i := 1516) (by decide +kernel)⟩
theorem lw_p103 : lw_okq (⟨"RouteStridesModel", "isHop", "(I)Z"⟩, 52) := ⟨⟨by decide +kernel, by decide +kernel⟩, List.mem_of_getElem? (i := 1010) (by decide +kernel), List.mem_of_getElem? (i := 1527) (by decide +kernel), List.mem_of_getElem? (i := 1528) (by decide +kernel)⟩
theorem lw_p104 : lw_okq (⟨"RouteStridesModel", "isNode", "(I)Z"⟩, 52) := ⟨⟨by decide +kernel, by decide +kernel⟩, List.mem_of_getElem? (i := 1010) (by decide +kernel), List.mem_of_getElem? (i := 1540) (by decide +kernel), List.mem_of_getElem? (i := 1541) (by decide +kernel)⟩
theorem lw_p105 : lw_okq (⟨"RouteStridesModel", "parentNode", "(I)I"⟩, 52) := ⟨⟨by decide +kernel, by decide +kernel⟩, List.mem_of_getElem? (i := 1010) (by decide +kernel), List.mem_of_getElem? (i := 1545) (by decide +kernel), List.mem_of_getElem? (i := 1546) (by decide +kernel)⟩
theorem lw_p106 : lw_okq (⟨"RouteStridesModel", "hopBy", "(I)I"⟩, 52) := ⟨⟨by decide +kernel, by decide +kernel⟩, List.mem_of_getElem? (i := 1010) (by decide +kernel), List.mem_of_getElem? (i := 1553) (by decide +kernel), List.mem_of_getElem? (i := 1554) (by decide +kernel)⟩
theorem lw_p107 : lw_okq (⟨"RouteStridesModel", "leads", "(II)Z"⟩, 52) := ⟨⟨by decide +kernel, by decide +kernel⟩, List.mem_of_getElem? (i := 1010) (by decide +kernel), List.mem_of_getElem? (i := 1561) (by decide +kernel), List.mem_of_getElem? (i := 1562) (by decide +kernel)⟩
theorem lw_p108 : lw_okq (⟨"RouteStridesModel", "slotFirst", "(II)J"⟩, 52) := ⟨⟨by decide +kernel, by decide +kernel⟩, List.mem_of_getElem? (i := 1010) (by decide +kernel), List.mem_of_getElem? (i := 1565) (by decide +kernel), List.mem_of_getElem? (i := 1566) (by decide +kernel)⟩
theorem lw_p109 : lw_okq (⟨"RouteStridesModel", "laysClasses", "()V"⟩, 52) := ⟨⟨by decide +kernel, by decide +kernel⟩, List.mem_of_getElem? (i := 1010) (by decide +kernel), List.mem_of_getElem? (i := 1573) (by decide +kernel), List.mem_of_getElem? (i := 1574) (by decide +kernel)⟩
theorem lw_p110 : lw_okq (⟨"RouteStridesModel", "laysKinds", "(I)V"⟩, 52) := ⟨⟨by decide +kernel, by decide +kernel⟩, List.mem_of_getElem? (i := 1010) (by decide +kernel), List.mem_of_getElem? (i := 1577) (by decide +kernel), List.mem_of_getElem? (i := 1578) (by decide +kernel)⟩
theorem lw_p111 : lw_okq (⟨"RouteStridesModel", "areLike", "(II)Z"⟩, 52) := ⟨⟨by decide +kernel, by decide +kernel⟩, List.mem_of_getElem? (i := 1010) (by decide +kernel), List.mem_of_getElem? (i := 1581) (by decide +kernel), List.mem_of_getElem? (i := 1582) (by decide +kernel)⟩
def lw_privs_7 : List (MethodName × Nat) := [(⟨"RouteStridesModel", "hasChild", "(IJ)Z"⟩, 52), (⟨"RouteStridesModel", "storedPlace", "(J)I"⟩, 52), (⟨"RouteStridesModel", "hopWithout", "(J)I"⟩, 52), (⟨"RouteStridesModel", "nodeAt", "(IJ)I"⟩, 52), (⟨"RouteStridesModel", "isRule", "(I)Z"⟩, 52), (⟨"RouteStridesModel", "servedBy", "(I)J"⟩, 52), (⟨"RouteStridesModel", "parentOf", "(I)I"⟩, 52), (⟨"RouteStridesModel", "isHop", "(I)Z"⟩, 52), (⟨"RouteStridesModel", "isNode", "(I)Z"⟩, 52), (⟨"RouteStridesModel", "parentNode", "(I)I"⟩, 52), (⟨"RouteStridesModel", "hopBy", "(I)I"⟩, 52), (⟨"RouteStridesModel", "leads", "(II)Z"⟩, 52), (⟨"RouteStridesModel", "slotFirst", "(II)J"⟩, 52), (⟨"RouteStridesModel", "laysClasses", "()V"⟩, 52), (⟨"RouteStridesModel", "laysKinds", "(I)V"⟩, 52), (⟨"RouteStridesModel", "areLike", "(II)Z"⟩, 52)]
theorem lw_r7 : ∀ q ∈ lw_privs_7, lw_okq q := List.forall_mem_cons.mpr ⟨lw_p96, List.forall_mem_cons.mpr ⟨lw_p97, List.forall_mem_cons.mpr ⟨lw_p98, List.forall_mem_cons.mpr ⟨lw_p99, List.forall_mem_cons.mpr ⟨lw_p100, List.forall_mem_cons.mpr ⟨lw_p101, List.forall_mem_cons.mpr ⟨lw_p102, List.forall_mem_cons.mpr ⟨lw_p103, List.forall_mem_cons.mpr ⟨lw_p104, List.forall_mem_cons.mpr ⟨lw_p105, List.forall_mem_cons.mpr ⟨lw_p106, List.forall_mem_cons.mpr ⟨lw_p107, List.forall_mem_cons.mpr ⟨lw_p108, List.forall_mem_cons.mpr ⟨lw_p109, List.forall_mem_cons.mpr ⟨lw_p110, List.forall_mem_cons.mpr ⟨lw_p111, fun _ h => absurd h List.not_mem_nil⟩⟩⟩⟩⟩⟩⟩⟩⟩⟩⟩⟩⟩⟩⟩⟩
theorem lw_p112 : lw_okq (⟨"RouteStridesModel", "storedAt", "(I)I"⟩, 52) := ⟨⟨by decide +kernel, by decide +kernel⟩, List.mem_of_getElem? (i := 1010) (by decide +kernel), List.mem_of_getElem? (i := 1589) (by decide +kernel), List.mem_of_getElem? (i := 1590) (by decide +kernel)⟩
theorem lw_p113 : lw_okq (⟨"RouteStridesModel", "unlikeAt", "(I)I"⟩, 52) := ⟨⟨by decide +kernel, by decide +kernel⟩, List.mem_of_getElem? (i := 1010) (by decide +kernel), List.mem_of_getElem? (i := 1593) (by decide +kernel), List.mem_of_getElem? (i := 1594) (by decide +kernel)⟩
theorem lw_p114 : lw_okq (⟨"RouteStridesModel", "laysFewest", "()V"⟩, 52) := ⟨⟨by decide +kernel, by decide +kernel⟩, List.mem_of_getElem? (i := 1010) (by decide +kernel), List.mem_of_getElem? (i := 1620) (by decide +kernel), List.mem_of_getElem? (i := 1621) (by decide +kernel)⟩
theorem lw_p115 : lw_okq (⟨"RouteStridesModel", "hands", "(JII)V"⟩, 52) := ⟨⟨by decide +kernel, by decide +kernel⟩, List.mem_of_getElem? (i := 1010) (by decide +kernel), List.mem_of_getElem? (i := 1624) (by decide +kernel), List.mem_of_getElem? (i := 1625) (by decide +kernel)⟩
theorem lw_p116 : lw_okq (⟨"RouteStridesModel", "setOf", "(JI)J"⟩, 52) := ⟨⟨by decide +kernel, by decide +kernel⟩, List.mem_of_getElem? (i := 1010) (by decide +kernel), List.mem_of_getElem? (i := 1628) (by decide +kernel), List.mem_of_getElem? (i := 1629) (by decide +kernel)⟩
theorem lw_p117 : lw_okq (⟨"RouteStridesModel", "ownSet", "(J)J"⟩, 52) := ⟨⟨by decide +kernel, by decide +kernel⟩, List.mem_of_getElem? (i := 1010) (by decide +kernel), List.mem_of_getElem? (i := 1632) (by decide +kernel), List.mem_of_getElem? (i := 1633) (by decide +kernel)⟩
theorem lw_p118 : lw_okq (⟨"RouteStridesModel", "areFewest", "()Z"⟩, 52) := ⟨⟨by decide +kernel, by decide +kernel⟩, List.mem_of_getElem? (i := 1010) (by decide +kernel), List.mem_of_getElem? (i := 1643) (by decide +kernel), List.mem_of_getElem? (i := 1644) (by decide +kernel)⟩
theorem lw_p119 : lw_okq (⟨"RouteStridesModel", "ownAt", "(III)J"⟩, 52) := ⟨⟨by decide +kernel, by decide +kernel⟩, List.mem_of_getElem? (i := 1010) (by decide +kernel), List.mem_of_getElem? (i := 1651) (by decide +kernel), List.mem_of_getElem? (i := 1652) (by decide +kernel)⟩
theorem lw_p120 : lw_okq (⟨"RouteStridesModel", "laysSlots", "()V"⟩, 52) := ⟨⟨by decide +kernel, by decide +kernel⟩, List.mem_of_getElem? (i := 1010) (by decide +kernel), List.mem_of_getElem? (i := 1661) (by decide +kernel), List.mem_of_getElem? (i := 1662) (by decide +kernel)⟩
theorem lw_p121 : lw_okq (⟨"RouteStridesModel", "nodesOf", "(I)I"⟩, 52) := ⟨⟨by decide +kernel, by decide +kernel⟩, List.mem_of_getElem? (i := 1010) (by decide +kernel), List.mem_of_getElem? (i := 1665) (by decide +kernel), List.mem_of_getElem? (i := 1666) (by decide +kernel)⟩
theorem lw_p122 : lw_okq (⟨"RouteStridesModel", "slotsIf", "(III)I"⟩, 52) := ⟨⟨by decide +kernel, by decide +kernel⟩, List.mem_of_getElem? (i := 1010) (by decide +kernel), List.mem_of_getElem? (i := 1670) (by decide +kernel), List.mem_of_getElem? (i := 1671) (by decide +kernel)⟩
theorem lw_p123 : lw_okq (⟨"RouteStridesModel", "stridesOf", "(I)J"⟩, 52) := ⟨⟨by decide +kernel, by decide +kernel⟩, List.mem_of_getElem? (i := 1010) (by decide +kernel), List.mem_of_getElem? (i := 1674) (by decide +kernel), List.mem_of_getElem? (i := 1675) (by decide +kernel)⟩
theorem lw_p124 : lw_okq (⟨"RouteStridesModel", "hops", "()I"⟩, 52) := ⟨⟨by decide +kernel, by decide +kernel⟩, List.mem_of_getElem? (i := 1010) (by decide +kernel), List.mem_of_getElem? (i := 1682) (by decide +kernel), List.mem_of_getElem? (i := 1683) (by decide +kernel)⟩
theorem lw_p125 : lw_okq (⟨"RouteStridesModel", "allLevels", "(I)I"⟩, 52) := ⟨⟨by decide +kernel, by decide +kernel⟩, List.mem_of_getElem? (i := 1010) (by decide +kernel), List.mem_of_getElem? (i := 1686) (by decide +kernel), List.mem_of_getElem? (i := 1687) (by decide +kernel)⟩
theorem lw_p126 : lw_okq (⟨"RouteStridesModel", "idle", "()I"⟩, 52) := ⟨⟨by decide +kernel, by decide +kernel⟩, List.mem_of_getElem? (i := 1010) (by decide +kernel), List.mem_of_getElem? (i := 1691) (by decide +kernel), List.mem_of_getElem? (i := 1692) (by decide +kernel)⟩
theorem lw_p127 : lw_okq (⟨"RouteStridesModel", "keptSet", "()I"⟩, 52) := ⟨⟨by decide +kernel, by decide +kernel⟩, List.mem_of_getElem? (i := 1010) (by decide +kernel), List.mem_of_getElem? (i := 1695) (by decide +kernel), List.mem_of_getElem? (i := 1696) (by decide +kernel)⟩
def lw_privs_8 : List (MethodName × Nat) := [(⟨"RouteStridesModel", "storedAt", "(I)I"⟩, 52), (⟨"RouteStridesModel", "unlikeAt", "(I)I"⟩, 52), (⟨"RouteStridesModel", "laysFewest", "()V"⟩, 52), (⟨"RouteStridesModel", "hands", "(JII)V"⟩, 52), (⟨"RouteStridesModel", "setOf", "(JI)J"⟩, 52), (⟨"RouteStridesModel", "ownSet", "(J)J"⟩, 52), (⟨"RouteStridesModel", "areFewest", "()Z"⟩, 52), (⟨"RouteStridesModel", "ownAt", "(III)J"⟩, 52), (⟨"RouteStridesModel", "laysSlots", "()V"⟩, 52), (⟨"RouteStridesModel", "nodesOf", "(I)I"⟩, 52), (⟨"RouteStridesModel", "slotsIf", "(III)I"⟩, 52), (⟨"RouteStridesModel", "stridesOf", "(I)J"⟩, 52), (⟨"RouteStridesModel", "hops", "()I"⟩, 52), (⟨"RouteStridesModel", "allLevels", "(I)I"⟩, 52), (⟨"RouteStridesModel", "idle", "()I"⟩, 52), (⟨"RouteStridesModel", "keptSet", "()I"⟩, 52)]
theorem lw_r8 : ∀ q ∈ lw_privs_8, lw_okq q := List.forall_mem_cons.mpr ⟨lw_p112, List.forall_mem_cons.mpr ⟨lw_p113, List.forall_mem_cons.mpr ⟨lw_p114, List.forall_mem_cons.mpr ⟨lw_p115, List.forall_mem_cons.mpr ⟨lw_p116, List.forall_mem_cons.mpr ⟨lw_p117, List.forall_mem_cons.mpr ⟨lw_p118, List.forall_mem_cons.mpr ⟨lw_p119, List.forall_mem_cons.mpr ⟨lw_p120, List.forall_mem_cons.mpr ⟨lw_p121, List.forall_mem_cons.mpr ⟨lw_p122, List.forall_mem_cons.mpr ⟨lw_p123, List.forall_mem_cons.mpr ⟨lw_p124, List.forall_mem_cons.mpr ⟨lw_p125, List.forall_mem_cons.mpr ⟨lw_p126, List.forall_mem_cons.mpr ⟨lw_p127, fun _ h => absurd h List.not_mem_nil⟩⟩⟩⟩⟩⟩⟩⟩⟩⟩⟩⟩⟩⟩⟩⟩
def lw_privs : List (MethodName × Nat) := lw_privs_1 ++ (lw_privs_2 ++ (lw_privs_3 ++ (lw_privs_4 ++ (lw_privs_5 ++ (lw_privs_6 ++ (lw_privs_7 ++ (lw_privs_8)))))))
def lw_tbl : List Cond := k2_sels lw_privs ++ tables_1
theorem lw_privs_ok : ∀ q ∈ lw_privs, lw_okq q := by
  show ∀ q ∈ lw_privs_1 ++ (lw_privs_2 ++ (lw_privs_3 ++ (lw_privs_4 ++ (lw_privs_5 ++ (lw_privs_6 ++ (lw_privs_7 ++ (lw_privs_8))))))), lw_okq q
  exact List.forall_mem_append.mpr ⟨lw_r1, List.forall_mem_append.mpr ⟨lw_r2, List.forall_mem_append.mpr ⟨lw_r3, List.forall_mem_append.mpr ⟨lw_r4, List.forall_mem_append.mpr ⟨lw_r5, List.forall_mem_append.mpr ⟨lw_r6, List.forall_mem_append.mpr ⟨lw_r7, lw_r8⟩⟩⟩⟩⟩⟩⟩
/-- the streams that the claim lets the run draw from -/
abbrev lw_cs : List Choice := [Jvm.Choice.named "NaN.bits"]
theorem lw_bits : nanBits ∈ lw_cs := by first | decide | exact List.mem_cons_self | simp [lw_cs, nanBits]
-- ===== end of PART A; then your names; then what follows =====
def RX0 : String := "RouteStrides$Costs"
def TX0 : u_T := fun k => match k with
  | 0 => ("RouteStrides$Costs", "nodesAt", "[J", true)
  | _ => ("RouteStrides$Costs", "slotsFrom", "[[J", true)
def tyX0 : Nat → FieldType := fun k => match k with
  | 0 => .array .long
  | _ => .array (.array .long)
theorem nmX0 : ∀ a, a < 2 → ∀ b, b < 2 → a ≠ b → (TX0 a).2.1 ≠ (TX0 b).2.1 := by decide +kernel
theorem tyX0_ok : ∀ k, k < 2 → parseFieldDescriptor (TX0 k).2.2.1 = some (tyX0 k) := by decide +kernel
def RX1 : String := "RouteStrides$Fewest"
def TX1 : u_T := fun k => match k with
  | 0 => ("RouteStrides$Fewest", "size", "I", false)
  | 1 => ("RouteStrides$Fewest", "value", "[J", true)
  | 2 => ("RouteStrides$Fewest", "length", "[I", true)
  | 3 => ("RouteStrides$Fewest", "hopOf", "[I", true)
  | 4 => ("RouteStrides$Fewest", "set", "[J", true)
  | 5 => ("RouteStrides$Fewest", "rightHalf", "[I", true)
  | _ => ("RouteStrides$Fewest", "parts", "I", false)
def tyX1 : Nat → FieldType := fun k => match k with
  | 0 => .int
  | 1 => .array .long
  | 2 => .array .int
  | 3 => .array .int
  | 4 => .array .long
  | 5 => .array .int
  | _ => .int
theorem nmX1 : ∀ a, a < 7 → ∀ b, b < 7 → a ≠ b → (TX1 a).2.1 ≠ (TX1 b).2.1 := by decide +kernel
theorem tyX1_ok : ∀ k, k < 7 → parseFieldDescriptor (TX1 k).2.2.1 = some (tyX1 k) := by decide +kernel
def RX2 : String := "RouteStrides$Kinds"
def TX2 : u_T := fun k => match k with
  | 0 => ("RouteStrides$Kinds", "kind", "[I", true)
  | 1 => ("RouteStrides$Kinds", "rowStart", "[I", true)
  | _ => ("RouteStrides$Kinds", "nextInRow", "[I", true)
def tyX2 : Nat → FieldType := fun k => match k with
  | 0 => .array .int
  | 1 => .array .int
  | _ => .array .int
theorem nmX2 : ∀ a, a < 3 → ∀ b, b < 3 → a ≠ b → (TX2 a).2.1 ≠ (TX2 b).2.1 := by decide +kernel
theorem tyX2_ok : ∀ k, k < 3 → parseFieldDescriptor (TX2 k).2.2.1 = some (tyX2 k) := by decide +kernel
def RX3 : String := "RouteStrides$Nodes"
def TX3 : u_T := fun k => match k with
  | 0 => ("RouteStrides$Nodes", "size", "I", false)
  | 1 => ("RouteStrides$Nodes", "value", "[J", true)
  | 2 => ("RouteStrides$Nodes", "levelOf", "[I", true)
  | 3 => ("RouteStrides$Nodes", "child", "[J", true)
  | 4 => ("RouteStrides$Nodes", "run", "[J", true)
  | 5 => ("RouteStrides$Nodes", "parent", "[I", true)
  | 6 => ("RouteStrides$Nodes", "firstChild", "[I", true)
  | 7 => ("RouteStrides$Nodes", "trail", "[I", true)
  | 8 => ("RouteStrides$Nodes", "storedFrom", "[I", true)
  | 9 => ("RouteStrides$Nodes", "storedHop", "[I", true)
  | 10 => ("RouteStrides$Nodes", "storedKey", "[I", true)
  | 11 => ("RouteStrides$Nodes", "spanAt", "[I", true)
  | 12 => ("RouteStrides$Nodes", "levelFrom", "[I", true)
  | 13 => ("RouteStrides$Nodes", "bitsAhead", "[I", true)
  | 14 => ("RouteStrides$Nodes", "stride", "[I", true)
  | 15 => ("RouteStrides$Nodes", "levels", "I", false)
  | 16 => ("RouteStrides$Nodes", "storedSize", "I", false)
  | _ => ("RouteStrides$Nodes", "gone", "I", false)
def tyX3 : Nat → FieldType := fun k => match k with
  | 0 => .int
  | 1 => .array .long
  | 2 => .array .int
  | 3 => .array .long
  | 4 => .array .long
  | 5 => .array .int
  | 6 => .array .int
  | 7 => .array .int
  | 8 => .array .int
  | 9 => .array .int
  | 10 => .array .int
  | 11 => .array .int
  | 12 => .array .int
  | 13 => .array .int
  | 14 => .array .int
  | 15 => .int
  | 16 => .int
  | _ => .int
theorem nmX3 : ∀ a, a < 18 → ∀ b, b < 18 → a ≠ b → (TX3 a).2.1 ≠ (TX3 b).2.1 := by decide +kernel
theorem tyX3_ok : ∀ k, k < 18 → parseFieldDescriptor (TX3 k).2.2.1 = some (tyX3 k) := by decide +kernel
def RX4 : String := "RouteStrides$Pieces"
def TX4 : u_T := fun k => match k with
  | 0 => ("RouteStrides$Pieces", "size", "I", false)
  | 1 => ("RouteStrides$Pieces", "value", "[J", true)
  | _ => ("RouteStrides$Pieces", "length", "[I", true)
def tyX4 : Nat → FieldType := fun k => match k with
  | 0 => .int
  | 1 => .array .long
  | _ => .array .int
theorem nmX4 : ∀ a, a < 3 → ∀ b, b < 3 → a ≠ b → (TX4 a).2.1 ≠ (TX4 b).2.1 := by decide +kernel
theorem tyX4_ok : ∀ k, k < 3 → parseFieldDescriptor (TX4 k).2.2.1 = some (tyX4 k) := by decide +kernel
def RX5 : String := "RouteStrides$Spans"
def TX5 : u_T := fun k => match k with
  | 0 => ("RouteStrides$Spans", "size", "I", false)
  | 1 => ("RouteStrides$Spans", "first", "[J", true)
  | 2 => ("RouteStrides$Spans", "last", "[J", true)
  | 3 => ("RouteStrides$Spans", "hopOf", "[I", true)
  | 4 => ("RouteStrides$Spans", "keyOfSpan", "[I", true)
  | 5 => ("RouteStrides$Spans", "serving", "[J", true)
  | 6 => ("RouteStrides$Spans", "outer", "[I", true)
  | 7 => ("RouteStrides$Spans", "open", "[I", true)
  | 8 => ("RouteStrides$Spans", "depth", "I", false)
  | _ => ("RouteStrides$Spans", "next", "J", false)
def tyX5 : Nat → FieldType := fun k => match k with
  | 0 => .int
  | 1 => .array .long
  | 2 => .array .long
  | 3 => .array .int
  | 4 => .array .int
  | 5 => .array .long
  | 6 => .array .int
  | 7 => .array .int
  | 8 => .int
  | _ => .long
theorem nmX5 : ∀ a, a < 10 → ∀ b, b < 10 → a ≠ b → (TX5 a).2.1 ≠ (TX5 b).2.1 := by decide +kernel
theorem tyX5_ok : ∀ k, k < 10 → parseFieldDescriptor (TX5 k).2.2.1 = some (tyX5 k) := by decide +kernel
def RX6 : String := "RouteStrides$Table"
def TX6 : u_T := fun k => match k with
  | 0 => ("RouteStrides$Table", "rules", "I", false)
  | 1 => ("RouteStrides$Table", "value", "[J", true)
  | 2 => ("RouteStrides$Table", "length", "[I", true)
  | 3 => ("RouteStrides$Table", "hopOf", "[I", true)
  | 4 => ("RouteStrides$Table", "key", "[I", true)
  | 5 => ("RouteStrides$Table", "users", "[I", true)
  | 6 => ("RouteStrides$Table", "levels", "I", false)
  | _ => ("RouteStrides$Table", "stride", "[I", true)
def tyX6 : Nat → FieldType := fun k => match k with
  | 0 => .int
  | 1 => .array .long
  | 2 => .array .int
  | 3 => .array .int
  | 4 => .array .int
  | 5 => .array .int
  | 6 => .int
  | _ => .array .int
theorem nmX6 : ∀ a, a < 8 → ∀ b, b < 8 → a ≠ b → (TX6 a).2.1 ≠ (TX6 b).2.1 := by decide +kernel
theorem tyX6_ok : ∀ k, k < 8 → parseFieldDescriptor (TX6 k).2.2.1 = some (tyX6 k) := by decide +kernel
def RX7 : String := "RouteStrides$Tape"
def TX7 : u_T := fun k => match k with
  | 0 => ("RouteStrides$Tape", "size", "I", false)
  | 1 => ("RouteStrides$Tape", "bytes", "[I", true)
  | 2 => ("RouteStrides$Tape", "at", "I", false)
  | _ => ("RouteStrides$Tape", "fault", "I", false)
def tyX7 : Nat → FieldType := fun k => match k with
  | 0 => .int
  | 1 => .array .int
  | 2 => .int
  | _ => .int
theorem nmX7 : ∀ a, a < 4 → ∀ b, b < 4 → a ≠ b → (TX7 a).2.1 ≠ (TX7 b).2.1 := by decide +kernel
theorem tyX7_ok : ∀ k, k < 4 → parseFieldDescriptor (TX7 k).2.2.1 = some (tyX7 k) := by decide +kernel
def RX8 : String := "RouteStrides"
def TX8 : u_T := fun k => match k with
  | 0 => ("RouteStrides", "tape", "LRouteStrides$Tape;", true)
  | 1 => ("RouteStrides", "now", "LRouteStrides$Table;", true)
  | 2 => ("RouteStrides", "trial", "LRouteStrides$Table;", true)
  | 3 => ("RouteStrides", "past", "[LRouteStrides$Table;", true)
  | 4 => ("RouteStrides", "shelves", "[LRouteStrides$Table;", true)
  | 5 => ("RouteStrides", "acts", "I", false)
  | 6 => ("RouteStrides", "kept", "I", false)
  | 7 => ("RouteStrides", "touched", "I", false)
  | 8 => ("RouteStrides", "known", "I", false)
  | 9 => ("RouteStrides", "spans", "LRouteStrides$Spans;", true)
  | 10 => ("RouteStrides", "otherSpans", "LRouteStrides$Spans;", true)
  | 11 => ("RouteStrides", "nodes", "LRouteStrides$Nodes;", true)
  | 12 => ("RouteStrides", "otherNodes", "LRouteStrides$Nodes;", true)
  | 13 => ("RouteStrides", "kinds", "LRouteStrides$Kinds;", true)
  | 14 => ("RouteStrides", "few", "LRouteStrides$Fewest;", true)
  | 15 => ("RouteStrides", "costs", "LRouteStrides$Costs;", true)
  | _ => ("RouteStrides", "pieces", "LRouteStrides$Pieces;", true)
def tyX8 : Nat → FieldType := fun k => match k with
  | 0 => .object "RouteStrides$Tape"
  | 1 => .object "RouteStrides$Table"
  | 2 => .object "RouteStrides$Table"
  | 3 => .array (.object "RouteStrides$Table")
  | 4 => .array (.object "RouteStrides$Table")
  | 5 => .int
  | 6 => .int
  | 7 => .int
  | 8 => .int
  | 9 => .object "RouteStrides$Spans"
  | 10 => .object "RouteStrides$Spans"
  | 11 => .object "RouteStrides$Nodes"
  | 12 => .object "RouteStrides$Nodes"
  | 13 => .object "RouteStrides$Kinds"
  | 14 => .object "RouteStrides$Fewest"
  | 15 => .object "RouteStrides$Costs"
  | _ => .object "RouteStrides$Pieces"
theorem nmX8 : ∀ a, a < 17 → ∀ b, b < 17 → a ≠ b → (TX8 a).2.1 ≠ (TX8 b).2.1 := by decide +kernel
theorem tyX8_ok : ∀ k, k < 17 → parseFieldDescriptor (TX8 k).2.2.1 = some (tyX8 k) := by decide +kernel
def RX9 : String := "RouteStridesModel"
def TX9 : u_T := fun k => match k with
  | 0 => ("RouteStridesModel", "now", "[I", true)
  | 1 => ("RouteStridesModel", "was", "[I", true)
  | 2 => ("RouteStridesModel", "undone", "I", false)
  | 3 => ("RouteStridesModel", "kept", "[I", true)
  | 4 => ("RouteStridesModel", "isKept", "[Z", true)
  | 5 => ("RouteStridesModel", "touched", "I", false)
  | 6 => ("RouteStridesModel", "rowMany", "[I", true)
  | 7 => ("RouteStridesModel", "rowFirst", "[J", true)
  | 8 => ("RouteStridesModel", "rowCode", "[I", true)
  | 9 => ("RouteStridesModel", "tableLevels", "[I", true)
  | 10 => ("RouteStridesModel", "tableStride", "[I", true)
  | 11 => ("RouteStridesModel", "tableLength", "[I", true)
  | 12 => ("RouteStridesModel", "placeMany", "I", false)
  | 13 => ("RouteStridesModel", "place", "[J", true)
  | 14 => ("RouteStridesModel", "placeRule", "[I", true)
  | 15 => ("RouteStridesModel", "nodeMany", "I", false)
  | 16 => ("RouteStridesModel", "nodeLevel", "[I", true)
  | 17 => ("RouteStridesModel", "nodeValue", "[J", true)
  | 18 => ("RouteStridesModel", "levelFrom", "[I", true)
  | 19 => ("RouteStridesModel", "areClasses", "Z", false)
  | 20 => ("RouteStridesModel", "childBits", "J", false)
  | 21 => ("RouteStridesModel", "runBits", "J", false)
  | 22 => ("RouteStridesModel", "storedMany", "I", false)
  | 23 => ("RouteStridesModel", "storedCode", "[I", true)
  | 24 => ("RouteStridesModel", "childThen", "J", false)
  | 25 => ("RouteStridesModel", "runThen", "J", false)
  | 26 => ("RouteStridesModel", "storedThen", "I", false)
  | 27 => ("RouteStridesModel", "codeThen", "[I", true)
  | 28 => ("RouteStridesModel", "tried", "[I", true)
  | 29 => ("RouteStridesModel", "coverMany", "I", false)
  | 30 => ("RouteStridesModel", "coverValue", "[J", true)
  | 31 => ("RouteStridesModel", "coverLength", "[I", true)
  | 32 => ("RouteStridesModel", "toldLevels", "I", false)
  | 33 => ("RouteStridesModel", "toldStride", "[I", true)
  | 34 => ("RouteStridesModel", "tape", "[B", true)
  | 35 => ("RouteStridesModel", "taped", "I", false)
  | 36 => ("RouteStridesModel", "at", "I", false)
  | 37 => ("RouteStridesModel", "wrong", "I", false)
  | 38 => ("RouteStridesModel", "number", "I", false)
  | 39 => ("RouteStridesModel", "begun", "I", false)
  | 40 => ("RouteStridesModel", "toldMany", "I", false)
  | 41 => ("RouteStridesModel", "toldValue", "[J", true)
  | 42 => ("RouteStridesModel", "toldLength", "[I", true)
  | 43 => ("RouteStridesModel", "toldCode", "[I", true)
  | 44 => ("RouteStridesModel", "firstLike", "[I", true)
  | 45 => ("RouteStridesModel", "slotKind", "[I", true)
  | 46 => ("RouteStridesModel", "fewMany", "I", false)
  | 47 => ("RouteStridesModel", "fewValue", "[J", true)
  | 48 => ("RouteStridesModel", "fewLength", "[I", true)
  | 49 => ("RouteStridesModel", "fewHop", "[I", true)
  | 50 => ("RouteStridesModel", "nodesBy", "[I", true)
  | _ => ("RouteStridesModel", "slotsBy", "[I", true)
def tyX9 : Nat → FieldType := fun k => match k with
  | 0 => .array .int
  | 1 => .array .int
  | 2 => .int
  | 3 => .array .int
  | 4 => .array .boolean
  | 5 => .int
  | 6 => .array .int
  | 7 => .array .long
  | 8 => .array .int
  | 9 => .array .int
  | 10 => .array .int
  | 11 => .array .int
  | 12 => .int
  | 13 => .array .long
  | 14 => .array .int
  | 15 => .int
  | 16 => .array .int
  | 17 => .array .long
  | 18 => .array .int
  | 19 => .boolean
  | 20 => .long
  | 21 => .long
  | 22 => .int
  | 23 => .array .int
  | 24 => .long
  | 25 => .long
  | 26 => .int
  | 27 => .array .int
  | 28 => .array .int
  | 29 => .int
  | 30 => .array .long
  | 31 => .array .int
  | 32 => .int
  | 33 => .array .int
  | 34 => .array .byte
  | 35 => .int
  | 36 => .int
  | 37 => .int
  | 38 => .int
  | 39 => .int
  | 40 => .int
  | 41 => .array .long
  | 42 => .array .int
  | 43 => .array .int
  | 44 => .array .int
  | 45 => .array .int
  | 46 => .int
  | 47 => .array .long
  | 48 => .array .int
  | 49 => .array .int
  | 50 => .array .int
  | _ => .array .int
theorem nmX9 : ∀ a, a < 52 → ∀ b, b < 52 → a ≠ b → (TX9 a).2.1 ≠ (TX9 b).2.1 := by decide +kernel
theorem tyX9_ok : ∀ k, k < 52 → parseFieldDescriptor (TX9 k).2.2.1 = some (tyX9 k) := by decide +kernel
abbrev xcl : List vw_C := [(RX0, TX0, 2), (RX1, TX1, 7), (RX2, TX2, 3), (RX3, TX3, 18), (RX4, TX4, 3), (RX5, TX5, 10), (RX6, TX6, 8), (RX7, TX7, 4), (RX8, TX8, 17), (RX9, TX9, 52)]
def xcns : List String := ["RouteStrides$Costs", "RouteStrides$Fewest", "RouteStrides$Kinds", "RouteStrides$Nodes", "RouteStrides$Pieces", "RouteStrides$Spans", "RouteStrides$Table", "RouteStrides$Tape", "RouteStrides", "RouteStridesModel", "RouteStridesLaw", "java/lang/Math", "java/lang/Long"]
def xfs : List (List (Nat × Nat × Int)) := [[(4, 33, 1), (7, 33, 2)], [(0, 0, 0), (4, 60, 1), (3, 60, 2), (3, 60, 3), (4, 3723, 4), (3, 3723, 5), (0, 0, 0)], [(3, 901, 1), (3, 64, 2), (3, 901, 3)], [(0, 0, 0), (4, 901, 1), (3, 901, 2), (4, 901, 3), (4, 901, 4), (3, 901, 5), (3, 901, 6), (3, 16, 7), (3, 902, 8), (3, 2837, 9), (3, 2837, 10), (3, 901, 11), (3, 17, 12), (3, 17, 13), (3, 16, 14), (0, 0, 0), (0, 0, 0), (0, 0, 0)], [(0, 0, 0), (4, 64, 1), (3, 64, 2)], [(0, 0, 0), (4, 121, 1), (4, 121, 2), (3, 121, 3), (3, 121, 4), (4, 60, 5), (3, 60, 6), (3, 33, 7), (0, 0, 0), (1, 0, 0)], [(0, 0, 0), (4, 60, 1), (3, 60, 2), (3, 60, 3), (3, 60, 4), (3, 60, 5), (0, 0, 0), (3, 16, 6)], [(0, 0, 0), (3, 400, 1), (0, 0, 0), (0, 0, 0)], [(2, 7, 1), (2, 6, 3), (2, 6, 10), (6, 10, 17), (6, 2, 18), (0, 0, 0), (0, 0, 0), (0, 0, 0), (0, 0, 0), (2, 5, 19), (2, 5, 27), (2, 3, 35), (2, 3, 50), (2, 2, 65), (2, 1, 69), (2, 0, 75), (2, 4, 111)], [(3, 259, 1), (3, 2590, 2), (0, 0, 0), (3, 518, 3), (5, 2, 4), (0, 0, 0), (3, 2, 5), (4, 248, 6), (3, 248, 7), (3, 2, 8), (3, 32, 9), (3, 34, 10), (0, 0, 0), (4, 124, 11), (3, 124, 12), (0, 0, 0), (3, 2000, 13), (4, 2000, 14), (3, 18, 15), (0, 1, 0), (1, 0, 0), (1, 0, 0), (0, 0, 0), (3, 64, 16), (1, 0, 0), (1, 0, 0), (0, 0, 0), (3, 64, 17), (3, 259, 18), (0, 0, 0), (4, 64, 19), (3, 64, 20), (0, 0, 0), (3, 24, 21), (12, 400, 22), (0, 0, 0), (0, 0, 0), (0, 0, 0), (0, 0, 0), (0, 0, 0), (0, 0, 0), (4, 64, 23), (3, 64, 24), (3, 64, 25), (3, 2000, 26), (3, 128000, 27), (0, 0, 0), (4, 128, 28), (3, 128, 29), (3, 128, 30), (3, 33, 31), (3, 561, 32)]]
/-- a method: its class, whether it is static, its name, code, locals, answer, where its words stand, its parameters -/
abbrev xT : Type := Nat × Nat × MethodName × Nat × Option FieldType × Nat × Nat × Nat × Nat × Nat
def mts_0 : List xT := [(12, 1, ⟨"java/lang/Long", "bitCount", "(J)I"⟩, 2, (some .int), 788, 144, 787, 0, 1),
  (0, 0, ⟨"RouteStrides$Costs", "weigh", "(LRouteStrides$Spans;)V"⟩, 4, none, 1068, 136, 1066, 1067, 1),
  (0, 1, ⟨"RouteStrides$Costs", "partedBeginnings", "(LRouteStrides$Spans;I)J"⟩, 13, (some .long), 1071, 136, 1070, 0, 2),
  (0, 0, ⟨"RouteStrides$Costs", "slotsWith", "(III)J"⟩, 5, (some .long), 1082, 136, 1081, 44, 3),
  (0, 0, ⟨"RouteStrides$Costs", "fewestSlots", "(II)J"⟩, 6, (some .long), 1078, 136, 1077, 43, 2),
  (0, 0, ⟨"RouteStrides$Costs", "slotsBy", "(I)J"⟩, 2, (some .long), 1091, 136, 1089, 1090, 1),
  (0, 0, ⟨"RouteStrides$Costs", "bestLevels", "(I)I"⟩, 4, (some .int), 1087, 136, 1085, 1086, 1),
  (0, 0, ⟨"RouteStrides$Costs", "digitsBy", "(I)J"⟩, 7, (some .long), 1096, 136, 1094, 1095, 1),
  (1, 0, ⟨"RouteStrides$Fewest", "seek", "(LRouteStrides$Spans;)V"⟩, 2, none, 767, 135, 765, 766, 1),
  (1, 0, ⟨"RouteStrides$Fewest", "hasNone", "()Z"⟩, 2, (some .boolean), 799, 135, 797, 798, 0),
  (1, 0, ⟨"RouteStrides$Fewest", "part", "(LRouteStrides$Spans;JII)I"⟩, 14, (some .int), 771, 135, 770, 24, 4),
  (1, 0, ⟨"RouteStrides$Fewest", "hand", "(IJII)V"⟩, 7, none, 782, 135, 781, 25, 4),
  (1, 1, ⟨"RouteStrides$Fewest", "leastOf", "(J)I"⟩, 2, (some .int), 785, 135, 784, 0, 1),
  (1, 0, ⟨"RouteStrides$Fewest", "append", "(JII)V"⟩, 5, none, 795, 135, 794, 26, 3),
  (2, 0, ⟨"RouteStrides$Kinds", "find", "(LRouteStrides$Nodes;)V"⟩, 5, none, 995, 134, 993, 994, 1),
  (2, 0, ⟨"RouteStrides$Kinds", "kindOf", "(LRouteStrides$Nodes;I)I"⟩, 6, (some .int), 1007, 134, 1006, 38, 2),
  (2, 0, ⟨"RouteStrides$Kinds", "rowOf", "(LRouteStrides$Nodes;I)I"⟩, 8, (some .int), 1011, 134, 1010, 39, 2),
  (2, 0, ⟨"RouteStrides$Kinds", "leadToLike", "(LRouteStrides$Nodes;II)Z"⟩, 6, (some .boolean), 1025, 134, 1024, 41, 3),
  (2, 0, ⟨"RouteStrides$Kinds", "kindOfChild", "(LRouteStrides$Nodes;II)I"⟩, 5, (some .int), 1019, 134, 1018, 40, 3),
  (2, 0, ⟨"RouteStrides$Kinds", "unlikeIn", "(II)I"⟩, 5, (some .int), 1039, 134, 1037, 1038, 2),
  (3, 0, ⟨"RouteStrides$Nodes", "build", "(LRouteStrides$Table;LRouteStrides$Spans;)V"⟩, 7, none, 844, 133, 842, 843, 2),
  (3, 0, ⟨"RouteStrides$Nodes", "append", "(JIII)V"⟩, 6, none, 849, 133, 848, 30, 4),
  (3, 0, ⟨"RouteStrides$Nodes", "fill", "(IILRouteStrides$Spans;)V"⟩, 14, none, 853, 133, 852, 31, 3),
  (3, 0, ⟨"RouteStrides$Nodes", "store", "(II)V"⟩, 3, none, 858, 133, 857, 32, 2),
  (3, 0, ⟨"RouteStrides$Nodes", "has", "(I)Z"⟩, 2, (some .boolean), 869, 133, 867, 868, 1),
  (3, 0, ⟨"RouteStrides$Nodes", "startOfLevel", "(I)I"⟩, 2, (some .int), 1003, 133, 1001, 1002, 1),
  (3, 0, ⟨"RouteStrides$Nodes", "behindLevel", "(I)I"⟩, 2, (some .int), 999, 133, 997, 998, 1),
  (3, 0, ⟨"RouteStrides$Nodes", "slotsOf", "(I)I"⟩, 2, (some .int), 881, 133, 879, 880, 1),
  (3, 0, ⟨"RouteStrides$Nodes", "storedBy", "(I)I"⟩, 2, (some .int), 965, 133, 963, 964, 1),
  (3, 0, ⟨"RouteStrides$Nodes", "storedAt", "(II)I"⟩, 3, (some .int), 973, 133, 971, 972, 2),
  (3, 0, ⟨"RouteStrides$Nodes", "storedIn", "(II)I"⟩, 3, (some .int), 1035, 133, 1033, 1034, 2),
  (3, 0, ⟨"RouteStrides$Nodes", "childAt", "(II)I"⟩, 3, (some .int), 877, 133, 875, 876, 2),
  (3, 0, ⟨"RouteStrides$Nodes", "placeAt", "(II)I"⟩, 3, (some .int), 890, 133, 889, 34, 2),
  (3, 0, ⟨"RouteStrides$Nodes", "leafHop", "(II)I"⟩, 4, (some .int), 983, 133, 981, 982, 2),
  (3, 0, ⟨"RouteStrides$Nodes", "slotOf", "(JI)I"⟩, 4, (some .int), 873, 133, 872, 33, 2),
  (3, 0, ⟨"RouteStrides$Nodes", "goTo", "(J)I"⟩, 4, (some .int), 865, 133, 863, 864, 1),
  (3, 0, ⟨"RouteStrides$Nodes", "placeOf", "(J)I"⟩, 3, (some .int), 886, 133, 884, 885, 1),
  (3, 0, ⟨"RouteStrides$Nodes", "deepest", "()I"⟩, 1, (some .int), 1136, 133, 1134, 1135, 0),
  (3, 0, ⟨"RouteStrides$Nodes", "allSteps", "()J"⟩, 4, (some .long), 1109, 133, 1107, 1108, 0),
  (3, 0, ⟨"RouteStrides$Nodes", "isSame", "(ILRouteStrides$Nodes;I)Z"⟩, 8, (some .boolean), 915, 133, 913, 914, 3)]
def mts_1 : List xT := [(3, 0, ⟨"RouteStrides$Nodes", "othersThan", "(LRouteStrides$Nodes;)I"⟩, 8, (some .int), 907, 133, 905, 906, 1),
  (3, 0, ⟨"RouteStrides$Nodes", "orderOf", "(ILRouteStrides$Nodes;I)J"⟩, 5, (some .long), 911, 133, 910, 36, 3),
  (4, 0, ⟨"RouteStrides$Pieces", "cut", "(JJ)V"⟩, 8, none, 710, 137, 708, 709, 2),
  (4, 1, ⟨"RouteStrides$Pieces", "shortestAt", "(JJ)I"⟩, 5, (some .int), 713, 137, 712, 0, 2),
  (4, 0, ⟨"RouteStrides$Pieces", "tellOf", "(II)J"⟩, 3, (some .long), 1051, 137, 1049, 1050, 2),
  (5, 0, ⟨"RouteStrides$Spans", "survey", "(LRouteStrides$Table;)V"⟩, 3, none, 748, 132, 746, 747, 1),
  (5, 0, ⟨"RouteStrides$Spans", "innermost", "()I"⟩, 1, (some .int), 756, 132, 755, 22, 0),
  (5, 0, ⟨"RouteStrides$Spans", "closeAhead", "(JLRouteStrides$Table;)V"⟩, 7, none, 752, 132, 751, 21, 2),
  (5, 0, ⟨"RouteStrides$Spans", "emit", "(IJLRouteStrides$Table;)V"⟩, 7, none, 761, 132, 760, 23, 3),
  (5, 0, ⟨"RouteStrides$Spans", "spanWith", "(JI)I"⟩, 5, (some .int), 775, 132, 773, 774, 2),
  (5, 0, ⟨"RouteStrides$Spans", "idle", "(I)I"⟩, 4, (some .int), 1128, 132, 1126, 1127, 1),
  (5, 0, ⟨"RouteStrides$Spans", "addressesWith", "(I)J"⟩, 5, (some .long), 956, 132, 954, 955, 1),
  (5, 0, ⟨"RouteStrides$Spans", "differing", "(LRouteStrides$Spans;Z)J"⟩, 13, (some .long), 929, 132, 927, 928, 2),
  (6, 0, ⟨"RouteStrides$Table", "takeFirstStrides", "()V"⟩, 2, none, 184, 131, 183, 0, 0),
  (6, 0, ⟨"RouteStrides$Table", "clear", "()V"⟩, 2, none, 516, 131, 514, 515, 0),
  (6, 0, ⟨"RouteStrides$Table", "copyFrom", "(LRouteStrides$Table;)V"⟩, 3, none, 654, 131, 652, 653, 1),
  (6, 0, ⟨"RouteStrides$Table", "copyStrides", "(LRouteStrides$Table;)V"⟩, 3, none, 658, 131, 656, 657, 1),
  (6, 0, ⟨"RouteStrides$Table", "hasStridesOf", "(LRouteStrides$Table;)Z"⟩, 3, (some .boolean), 731, 131, 729, 730, 1),
  (6, 0, ⟨"RouteStrides$Table", "takeStrides", "(J)Z"⟩, 8, (some .boolean), 722, 131, 720, 721, 1),
  (6, 0, ⟨"RouteStrides$Table", "turnStrides", "()V"⟩, 4, none, 727, 131, 726, 18, 0),
  (6, 0, ⟨"RouteStrides$Table", "placeFor", "(JI)I"⟩, 5, (some .int), 569, 131, 567, 568, 2),
  (6, 0, ⟨"RouteStrides$Table", "find", "(JI)I"⟩, 5, (some .int), 565, 131, 563, 564, 2),
  (6, 0, ⟨"RouteStrides$Table", "hasHop", "(I)Z"⟩, 2, (some .boolean), 577, 131, 575, 576, 1),
  (6, 0, ⟨"RouteStrides$Table", "hops", "()I"⟩, 3, (some .int), 1124, 131, 1122, 1123, 0),
  (6, 0, ⟨"RouteStrides$Table", "keyOfRule", "(I)I"⟩, 3, (some .int), 573, 131, 571, 572, 1),
  (6, 0, ⟨"RouteStrides$Table", "ruleOf", "(J)I"⟩, 5, (some .int), 831, 131, 829, 830, 1),
  (6, 0, ⟨"RouteStrides$Table", "put", "(JII)I"⟩, 6, (some .int), 561, 131, 559, 560, 3),
  (6, 0, ⟨"RouteStrides$Table", "makeRoom", "(JI)I"⟩, 6, (some .int), 585, 131, 584, 9, 2),
  (6, 0, ⟨"RouteStrides$Table", "drop", "(I)V"⟩, 3, none, 702, 131, 700, 701, 1),
  (6, 0, ⟨"RouteStrides$Table", "release", "(I)V"⟩, 2, none, 581, 131, 580, 8, 1),
  (6, 0, ⟨"RouteStrides$Table", "takeHop", "(I)I"⟩, 4, (some .int), 589, 131, 588, 10, 1),
  (6, 0, ⟨"RouteStrides$Table", "hasRulesOf", "(LRouteStrides$Fewest;)Z"⟩, 3, (some .boolean), 803, 131, 801, 802, 1),
  (6, 0, ⟨"RouteStrides$Table", "takeRules", "(LRouteStrides$Fewest;)V"⟩, 4, none, 807, 131, 805, 806, 1),
  (7, 0, ⟨"RouteStrides$Tape", "hasRoom", "()Z"⟩, 1, (some .boolean), 496, 130, 494, 495, 0),
  (7, 0, ⟨"RouteStrides$Tape", "append", "(I)V"⟩, 3, none, 500, 130, 498, 499, 1),
  (7, 0, ⟨"RouteStrides$Tape", "readInto", "(LRouteStrides$Table;)I"⟩, 4, (some .int), 512, 130, 510, 511, 1),
  (7, 0, ⟨"RouteStrides$Tape", "readLine", "(LRouteStrides$Table;)V"⟩, 3, none, 520, 130, 519, 1, 1),
  (7, 0, ⟨"RouteStrides$Tape", "readRule", "(LRouteStrides$Table;)V"⟩, 8, none, 535, 130, 534, 4, 1),
  (7, 0, ⟨"RouteStrides$Tape", "readStrides", "(LRouteStrides$Table;)V"⟩, 7, none, 646, 130, 645, 12, 1),
  (7, 0, ⟨"RouteStrides$Tape", "readNumber", "(I)I"⟩, 5, (some .int), 547, 130, 546, 7, 1)]
def mts_2 : List xT := [(7, 0, ⟨"RouteStrides$Tape", "expect", "(C)V"⟩, 2, none, 539, 130, 538, 5, 1),
  (7, 0, ⟨"RouteStrides$Tape", "isStrides", "()Z"⟩, 2, (some .boolean), 593, 130, 592, 11, 0),
  (7, 0, ⟨"RouteStrides$Tape", "atEnd", "()Z"⟩, 1, (some .boolean), 650, 130, 649, 13, 0),
  (7, 0, ⟨"RouteStrides$Tape", "nextSign", "()I"⟩, 1, (some .int), 524, 130, 523, 2, 0),
  (7, 0, ⟨"RouteStrides$Tape", "signAt", "(I)I"⟩, 2, (some .int), 528, 130, 527, 3, 1),
  (7, 1, ⟨"RouteStrides$Tape", "isDigit", "(I)Z"⟩, 1, (some .boolean), 531, 130, 530, 0, 1),
  (7, 0, ⟨"RouteStrides$Tape", "fail", "(II)V"⟩, 3, none, 543, 130, 542, 6, 2),
  (8, 0, ⟨"RouteStrides", "feed", "(IIIII)I"⟩, 6, (some .int), 492, 129, 490, 491, 5),
  (8, 0, ⟨"RouteStrides", "end", "(I)I"⟩, 2, (some .int), 504, 129, 502, 503, 1),
  (8, 0, ⟨"RouteStrides", "tell", "()I"⟩, 2, (some .int), 508, 129, 506, 507, 0),
  (8, 0, ⟨"RouteStrides", "add", "(IIII)I"⟩, 7, (some .int), 667, 129, 665, 666, 4),
  (8, 0, ⟨"RouteStrides", "withdraw", "(II)I"⟩, 4, (some .int), 698, 129, 696, 697, 2),
  (8, 0, ⟨"RouteStrides", "range", "(IIII)I"⟩, 10, (some .int), 706, 129, 704, 705, 4),
  (8, 0, ⟨"RouteStrides", "strides", "(J)I"⟩, 3, (some .int), 718, 129, 716, 717, 1),
  (8, 0, ⟨"RouteStrides", "gather", "()I"⟩, 1, (some .int), 736, 129, 734, 735, 0),
  (8, 0, ⟨"RouteStrides", "undo", "()I"⟩, 1, (some .int), 811, 129, 809, 810, 0),
  (8, 0, ⟨"RouteStrides", "keep", "(I)I"⟩, 2, (some .int), 815, 129, 813, 814, 1),
  (8, 0, ⟨"RouteStrides", "back", "(I)I"⟩, 2, (some .int), 819, 129, 817, 818, 1),
  (8, 0, ⟨"RouteStrides", "look", "(II)I"⟩, 6, (some .int), 827, 129, 825, 826, 2),
  (8, 0, ⟨"RouteStrides", "path", "(II)I"⟩, 4, (some .int), 895, 129, 893, 894, 2),
  (8, 0, ⟨"RouteStrides", "would", "(IIII)I"⟩, 7, (some .int), 899, 129, 897, 898, 4),
  (8, 0, ⟨"RouteStrides", "within", "(III)I"⟩, 8, (some .int), 919, 129, 917, 918, 3),
  (8, 0, ⟨"RouteStrides", "differs", "(II)J"⟩, 3, (some .long), 924, 129, 922, 923, 2),
  (8, 0, ⟨"RouteStrides", "rule", "(II)I"⟩, 3, (some .int), 938, 129, 936, 937, 2),
  (8, 0, ⟨"RouteStrides", "served", "(I)J"⟩, 2, (some .long), 942, 129, 940, 941, 1),
  (8, 0, ⟨"RouteStrides", "hop", "(II)I"⟩, 3, (some .int), 946, 129, 944, 945, 2),
  (8, 0, ⟨"RouteStrides", "reach", "(I)J"⟩, 2, (some .long), 951, 129, 949, 950, 1),
  (8, 0, ⟨"RouteStrides", "node", "(II)J"⟩, 3, (some .long), 960, 129, 958, 959, 2),
  (8, 0, ⟨"RouteStrides", "stored", "(II)I"⟩, 3, (some .int), 969, 129, 967, 968, 2),
  (8, 0, ⟨"RouteStrides", "slot", "(III)I"⟩, 5, (some .int), 977, 129, 975, 976, 3),
  (8, 0, ⟨"RouteStrides", "alike", "(II)I"⟩, 3, (some .int), 987, 129, 985, 986, 2),
  (8, 0, ⟨"RouteStrides", "level", "(II)I"⟩, 3, (some .int), 1029, 129, 1027, 1028, 2),
  (8, 0, ⟨"RouteStrides", "span", "(II)J"⟩, 3, (some .long), 1043, 129, 1041, 1042, 2),
  (8, 0, ⟨"RouteStrides", "cover", "(IIII)J"⟩, 5, (some .long), 1047, 129, 1045, 1046, 4),
  (8, 0, ⟨"RouteStrides", "own", "(III)J"⟩, 6, (some .long), 1056, 129, 1054, 1055, 3),
  (8, 0, ⟨"RouteStrides", "best", "(II)J"⟩, 4, (some .long), 1060, 129, 1058, 1059, 2),
  (8, 0, ⟨"RouteStrides", "fewest", "(II)J"⟩, 3, (some .long), 1101, 129, 1099, 1100, 2),
  (8, 0, ⟨"RouteStrides", "steps", "()J"⟩, 1, (some .long), 1105, 129, 1103, 1104, 0),
  (8, 0, ⟨"RouteStrides", "count", "(I)I"⟩, 2, (some .int), 1120, 129, 1118, 1119, 1),
  (8, 1, ⟨"RouteStrides", "unsigned", "(I)J"⟩, 1, (some .long), 673, 129, 672, 0, 1)]
def mts_3 : List xT := [(8, 1, ⟨"RouteStrides", "widthOf", "(I)J"⟩, 1, (some .long), 553, 129, 552, 0, 1),
  (8, 1, ⟨"RouteStrides", "isBeginning", "(II)Z"⟩, 2, (some .boolean), 670, 129, 669, 0, 2),
  (8, 1, ⟨"RouteStrides", "isWay", "(II)Z"⟩, 2, (some .boolean), 678, 129, 677, 0, 2),
  (8, 1, ⟨"RouteStrides", "keyOf", "(II)I"⟩, 2, (some .int), 557, 129, 556, 0, 2),
  (8, 0, ⟨"RouteStrides", "stateOf", "(III)I"⟩, 5, (some .int), 683, 129, 682, 15, 3),
  (8, 0, ⟨"RouteStrides", "isKept", "(I)Z"⟩, 2, (some .boolean), 823, 129, 822, 27, 1),
  (8, 0, ⟨"RouteStrides", "lookAtRules", "(II)I"⟩, 4, (some .int), 836, 129, 835, 28, 2),
  (8, 0, ⟨"RouteStrides", "beginAct", "()V"⟩, 1, none, 689, 129, 688, 16, 0),
  (8, 0, ⟨"RouteStrides", "dropOldestAct", "()V"⟩, 3, none, 693, 129, 692, 17, 0),
  (8, 0, ⟨"RouteStrides", "forgetActs", "()V"⟩, 1, none, 662, 129, 661, 14, 0),
  (8, 0, ⟨"RouteStrides", "touchedByLastAct", "()I"⟩, 1, (some .int), 1132, 129, 1131, 45, 0),
  (8, 0, ⟨"RouteStrides", "touchedAgainst", "(LRouteStrides$Table;)I"⟩, 2, (some .int), 903, 129, 902, 35, 1),
  (8, 0, ⟨"RouteStrides", "seeSpans", "()V"⟩, 1, none, 744, 129, 743, 20, 0),
  (8, 0, ⟨"RouteStrides", "seeNodes", "()V"⟩, 1, none, 840, 129, 839, 29, 0),
  (8, 0, ⟨"RouteStrides", "seeKinds", "()V"⟩, 1, none, 991, 129, 990, 37, 0),
  (8, 0, ⟨"RouteStrides", "seeFewest", "()V"⟩, 1, none, 740, 129, 739, 19, 0),
  (8, 0, ⟨"RouteStrides", "seeCosts", "()V"⟩, 1, none, 1064, 129, 1063, 42, 0),
  (8, 1, ⟨"RouteStrides", "bitsOfMean", "(J)J"⟩, 7, (some .long), 1115, 129, 1114, 0, 1),
  (9, 1, ⟨"RouteStridesModel", "isIn", "(JJJ)Z"⟩, 6, (some .boolean), 1179, 138, 1178, 0, 3),
  (9, 0, ⟨"RouteStridesModel", "startsAnew", "()V"⟩, 2, none, 1147, 138, 1146, 46, 0),
  (9, 1, ⟨"RouteStridesModel", "unsigned", "(I)J"⟩, 1, (some .long), 1166, 138, 1165, 0, 1),
  (9, 1, ⟨"RouteStridesModel", "sizeOf", "(I)J"⟩, 1, (some .long), 1173, 138, 1172, 0, 1),
  (9, 1, ⟨"RouteStridesModel", "isBeginning", "(II)Z"⟩, 2, (some .boolean), 1378, 138, 1377, 0, 2),
  (9, 1, ⟨"RouteStridesModel", "isWay", "(II)Z"⟩, 2, (some .boolean), 1382, 138, 1381, 0, 2),
  (9, 0, ⟨"RouteStridesModel", "valueOf", "(I)J"⟩, 2, (some .long), 1396, 138, 1395, 56, 1),
  (9, 0, ⟨"RouteStridesModel", "find", "(JI)I"⟩, 5, (some .int), 1392, 138, 1391, 55, 2),
  (9, 0, ⟨"RouteStridesModel", "rulesOf", "(I)I"⟩, 4, (some .int), 1420, 138, 1419, 62, 1),
  (9, 0, ⟨"RouteStridesModel", "hopOf", "(I)I"⟩, 3, (some .int), 1428, 138, 1427, 64, 1),
  (9, 0, ⟨"RouteStridesModel", "hopFor", "(I)I"⟩, 3, (some .int), 1424, 138, 1423, 63, 1),
  (9, 0, ⟨"RouteStridesModel", "frees", "(I)V"⟩, 2, none, 1416, 138, 1415, 61, 1),
  (9, 0, ⟨"RouteStridesModel", "isAhead", "(IJI)Z"⟩, 5, (some .boolean), 1408, 138, 1407, 59, 3),
  (9, 0, ⟨"RouteStridesModel", "copies", "(II)V"⟩, 3, none, 1412, 138, 1411, 60, 2),
  (9, 0, ⟨"RouteStridesModel", "puts", "(JII)I"⟩, 7, (some .int), 1404, 138, 1403, 58, 3),
  (9, 0, ⟨"RouteStridesModel", "drops", "(I)V"⟩, 4, none, 1485, 138, 1484, 77, 1),
  (9, 0, ⟨"RouteStridesModel", "addsPlace", "(J)V"⟩, 5, none, 1159, 138, 1158, 49, 1),
  (9, 1, ⟨"RouteStridesModel", "firstOf", "([III)J"⟩, 3, (some .long), 1163, 138, 1162, 0, 3),
  (9, 1, ⟨"RouteStridesModel", "behindOf", "([III)J"⟩, 3, (some .long), 1170, 138, 1169, 0, 3),
  (9, 1, ⟨"RouteStridesModel", "ruleOf", "([IIJI)I"⟩, 7, (some .int), 1176, 138, 1175, 0, 4),
  (9, 0, ⟨"RouteStridesModel", "laysPlaces", "([II)V"⟩, 4, none, 1155, 138, 1154, 48, 2),
  (9, 1, ⟨"RouteStridesModel", "codeBy", "([III)I"⟩, 3, (some .int), 1182, 138, 1181, 0, 3)]
def mts_4 : List xT := [(9, 0, ⟨"RouteStridesModel", "laysTable", "(I[II)V"⟩, 7, none, 1151, 138, 1150, 47, 3),
  (9, 0, ⟨"RouteStridesModel", "behindRow", "(II)J"⟩, 3, (some .long), 1452, 138, 1451, 70, 2),
  (9, 0, ⟨"RouteStridesModel", "rowAt", "(IJ)I"⟩, 7, (some .int), 1448, 138, 1447, 69, 2),
  (9, 0, ⟨"RouteStridesModel", "isOne", "(IJJ)Z"⟩, 6, (some .boolean), 1444, 138, 1443, 68, 3),
  (9, 0, ⟨"RouteStridesModel", "codeAt", "(IJ)I"⟩, 4, (some .int), 1472, 138, 1471, 75, 2),
  (9, 0, ⟨"RouteStridesModel", "lengthAt", "(II)I"⟩, 3, (some .int), 1194, 138, 1193, 52, 2),
  (9, 0, ⟨"RouteStridesModel", "addsNode", "(IJ)V"⟩, 4, none, 1190, 138, 1189, 51, 2),
  (9, 0, ⟨"RouteStridesModel", "laysNodes", "()V"⟩, 9, none, 1186, 138, 1185, 50, 0),
  (9, 0, ⟨"RouteStridesModel", "hasNode", "(IIJ)Z"⟩, 7, (some .boolean), 1440, 138, 1439, 67, 3),
  (9, 0, ⟨"RouteStridesModel", "nodeAt", "(IJ)I"⟩, 9, (some .int), 1621, 138, 1620, 99, 2),
  (9, 0, ⟨"RouteStridesModel", "slotsAt", "(II)I"⟩, 3, (some .int), 1468, 138, 1467, 74, 2),
  (9, 0, ⟨"RouteStridesModel", "slotSize", "(II)J"⟩, 3, (some .long), 1464, 138, 1463, 73, 2),
  (9, 0, ⟨"RouteStridesModel", "reads", "(IIJ)V"⟩, 11, none, 1460, 138, 1459, 72, 3),
  (9, 0, ⟨"RouteStridesModel", "isUnlike", "(IJ)Z"⟩, 5, (some .boolean), 1456, 138, 1455, 71, 2),
  (9, 0, ⟨"RouteStridesModel", "othersNow", "()I"⟩, 3, (some .int), 1436, 138, 1435, 66, 0),
  (9, 0, ⟨"RouteStridesModel", "goneNow", "()I"⟩, 12, (some .int), 1476, 138, 1475, 76, 0),
  (9, 0, ⟨"RouteStridesModel", "keepsAct", "()V"⟩, 2, none, 1400, 138, 1399, 57, 0),
  (9, 0, ⟨"RouteStridesModel", "isDone", "()V"⟩, 1, none, 1432, 138, 1431, 65, 0),
  (9, 0, ⟨"RouteStridesModel", "isLaidAnew", "()V"⟩, 1, none, 1360, 138, 1359, 53, 0),
  (9, 0, ⟨"RouteStridesModel", "undo", "()I"⟩, 2, (some .int), 1356, 138, 1354, 1355, 0),
  (9, 1, ⟨"RouteStridesModel", "isShelf", "(I)Z"⟩, 1, (some .boolean), 1367, 138, 1366, 0, 1),
  (9, 0, ⟨"RouteStridesModel", "keep", "(I)I"⟩, 3, (some .int), 1364, 138, 1362, 1363, 1),
  (9, 0, ⟨"RouteStridesModel", "back", "(I)I"⟩, 3, (some .int), 1371, 138, 1369, 1370, 1),
  (9, 0, ⟨"RouteStridesModel", "hasIt", "(JII)Z"⟩, 6, (some .boolean), 1388, 138, 1387, 54, 3),
  (9, 0, ⟨"RouteStridesModel", "add", "(IIII)I"⟩, 7, (some .int), 1375, 138, 1373, 1374, 4),
  (9, 0, ⟨"RouteStridesModel", "withdraw", "(II)I"⟩, 4, (some .int), 1481, 138, 1479, 1480, 2),
  (9, 0, ⟨"RouteStridesModel", "would", "(IIII)I"⟩, 9, (some .int), 1489, 138, 1487, 1488, 4),
  (9, 0, ⟨"RouteStridesModel", "covers", "(II)Z"⟩, 8, (some .boolean), 1497, 138, 1496, 78, 2),
  (9, 0, ⟨"RouteStridesModel", "cover", "(IIII)J"⟩, 5, (some .long), 1493, 138, 1491, 1492, 4),
  (9, 0, ⟨"RouteStridesModel", "range", "(IIII)I"⟩, 10, (some .int), 1502, 138, 1500, 1501, 4),
  (9, 0, ⟨"RouteStridesModel", "addsStride", "(I)Z"⟩, 4, (some .boolean), 1515, 138, 1514, 80, 1),
  (9, 0, ⟨"RouteStridesModel", "strideSum", "()I"⟩, 3, (some .int), 1521, 138, 1520, 81, 0),
  (9, 0, ⟨"RouteStridesModel", "takesStrides", "()V"⟩, 2, none, 1529, 138, 1528, 83, 0),
  (9, 0, ⟨"RouteStridesModel", "readsDigits", "(J)Z"⟩, 7, (some .boolean), 1510, 138, 1509, 79, 1),
  (9, 0, ⟨"RouteStridesModel", "areStrides", "()Z"⟩, 3, (some .boolean), 1525, 138, 1524, 82, 0),
  (9, 0, ⟨"RouteStridesModel", "strides", "(J)I"⟩, 3, (some .int), 1506, 138, 1504, 1505, 1),
  (9, 0, ⟨"RouteStridesModel", "feed", "(IIIII)I"⟩, 8, (some .int), 1533, 138, 1531, 1532, 5),
  (9, 0, ⟨"RouteStridesModel", "end", "(I)I"⟩, 2, (some .int), 1537, 138, 1535, 1536, 1),
  (9, 0, ⟨"RouteStridesModel", "byteAt", "(I)I"⟩, 2, (some .int), 1558, 138, 1557, 87, 1),
  (9, 0, ⟨"RouteStridesModel", "next", "()I"⟩, 1, (some .int), 1554, 138, 1553, 86, 0)]
def mts_5 : List xT := [(9, 0, ⟨"RouteStridesModel", "isDigitNext", "()Z"⟩, 1, (some .boolean), 1574, 138, 1573, 90, 0),
  (9, 0, ⟨"RouteStridesModel", "fails", "(II)Z"⟩, 3, (some .boolean), 1580, 138, 1579, 91, 2),
  (9, 0, ⟨"RouteStridesModel", "readsNumber", "(II)Z"⟩, 5, (some .boolean), 1570, 138, 1569, 89, 2),
  (9, 0, ⟨"RouteStridesModel", "readsSign", "(C)Z"⟩, 2, (some .boolean), 1588, 138, 1587, 93, 1),
  (9, 0, ⟨"RouteStridesModel", "isStridesWord", "()Z"⟩, 4, (some .boolean), 1549, 138, 1548, 85, 0),
  (9, 0, ⟨"RouteStridesModel", "readsStrides", "()Z"⟩, 2, (some .boolean), 1566, 138, 1565, 88, 0),
  (9, 0, ⟨"RouteStridesModel", "readsRule", "()Z"⟩, 5, (some .boolean), 1584, 138, 1583, 92, 0),
  (9, 0, ⟨"RouteStridesModel", "readsText", "()Z"⟩, 3, (some .boolean), 1545, 138, 1544, 84, 0),
  (9, 0, ⟨"RouteStridesModel", "tell", "()I"⟩, 4, (some .int), 1541, 138, 1539, 1540, 0),
  (9, 0, ⟨"RouteStridesModel", "hopAt", "(J)I"⟩, 4, (some .int), 1597, 138, 1596, 94, 1),
  (9, 0, ⟨"RouteStridesModel", "through", "(J)I"⟩, 4, (some .int), 1601, 138, 1600, 95, 1),
  (9, 0, ⟨"RouteStridesModel", "hasChild", "(IJ)Z"⟩, 6, (some .boolean), 1605, 138, 1604, 96, 2),
  (9, 0, ⟨"RouteStridesModel", "storedPlace", "(J)I"⟩, 8, (some .int), 1609, 138, 1608, 97, 1),
  (9, 0, ⟨"RouteStridesModel", "hopWithout", "(J)I"⟩, 5, (some .int), 1613, 138, 1612, 98, 1),
  (9, 0, ⟨"RouteStridesModel", "look", "(II)I"⟩, 5, (some .int), 1593, 138, 1591, 1592, 2),
  (9, 0, ⟨"RouteStridesModel", "path", "(II)I"⟩, 3, (some .int), 1617, 138, 1615, 1616, 2),
  (9, 0, ⟨"RouteStridesModel", "within", "(III)I"⟩, 6, (some .int), 1625, 138, 1623, 1624, 3),
  (9, 0, ⟨"RouteStridesModel", "differs", "(II)J"⟩, 13, (some .long), 1629, 138, 1627, 1628, 2),
  (9, 0, ⟨"RouteStridesModel", "servedBy", "(I)J"⟩, 5, (some .long), 1641, 138, 1640, 101, 1),
  (9, 0, ⟨"RouteStridesModel", "parentOf", "(I)I"⟩, 4, (some .int), 1645, 138, 1644, 102, 1),
  (9, 0, ⟨"RouteStridesModel", "isRule", "(I)Z"⟩, 2, (some .boolean), 1637, 138, 1636, 100, 1),
  (9, 0, ⟨"RouteStridesModel", "rule", "(II)I"⟩, 3, (some .int), 1633, 138, 1631, 1632, 2),
  (9, 0, ⟨"RouteStridesModel", "served", "(I)J"⟩, 2, (some .long), 1649, 138, 1647, 1648, 1),
  (9, 0, ⟨"RouteStridesModel", "isHop", "(I)Z"⟩, 2, (some .boolean), 1657, 138, 1656, 103, 1),
  (9, 0, ⟨"RouteStridesModel", "hop", "(II)I"⟩, 3, (some .int), 1653, 138, 1651, 1652, 2),
  (9, 0, ⟨"RouteStridesModel", "reach", "(I)J"⟩, 6, (some .long), 1662, 138, 1660, 1661, 1),
  (9, 0, ⟨"RouteStridesModel", "isNode", "(I)Z"⟩, 2, (some .boolean), 1670, 138, 1669, 104, 1),
  (9, 0, ⟨"RouteStridesModel", "parentNode", "(I)I"⟩, 2, (some .int), 1675, 138, 1674, 105, 1),
  (9, 0, ⟨"RouteStridesModel", "node", "(II)J"⟩, 3, (some .long), 1666, 138, 1664, 1665, 2),
  (9, 0, ⟨"RouteStridesModel", "hopBy", "(I)I"⟩, 2, (some .int), 1683, 138, 1682, 106, 1),
  (9, 0, ⟨"RouteStridesModel", "stored", "(II)I"⟩, 3, (some .int), 1679, 138, 1677, 1678, 2),
  (9, 0, ⟨"RouteStridesModel", "slotFirst", "(II)J"⟩, 3, (some .long), 1695, 138, 1694, 108, 2),
  (9, 0, ⟨"RouteStridesModel", "leads", "(II)Z"⟩, 3, (some .boolean), 1691, 138, 1690, 107, 2),
  (9, 0, ⟨"RouteStridesModel", "slot", "(III)I"⟩, 5, (some .int), 1687, 138, 1685, 1686, 3),
  (9, 0, ⟨"RouteStridesModel", "laysKinds", "(I)V"⟩, 7, none, 1707, 138, 1706, 110, 1),
  (9, 0, ⟨"RouteStridesModel", "areLike", "(II)Z"⟩, 4, (some .boolean), 1711, 138, 1710, 111, 2),
  (9, 0, ⟨"RouteStridesModel", "laysClasses", "()V"⟩, 4, none, 1703, 138, 1702, 109, 0),
  (9, 0, ⟨"RouteStridesModel", "alike", "(II)I"⟩, 3, (some .int), 1699, 138, 1697, 1698, 2),
  (9, 0, ⟨"RouteStridesModel", "storedAt", "(I)I"⟩, 4, (some .int), 1719, 138, 1718, 112, 1),
  (9, 0, ⟨"RouteStridesModel", "unlikeAt", "(I)I"⟩, 4, (some .int), 1723, 138, 1722, 113, 1)]
def mts_6 : List xT := [(9, 0, ⟨"RouteStridesModel", "level", "(II)I"⟩, 3, (some .int), 1715, 138, 1713, 1714, 2),
  (9, 0, ⟨"RouteStridesModel", "span", "(II)J"⟩, 3, (some .long), 1727, 138, 1725, 1726, 2),
  (9, 0, ⟨"RouteStridesModel", "steps", "()J"⟩, 4, (some .long), 1731, 138, 1729, 1730, 0),
  (9, 0, ⟨"RouteStridesModel", "ownSet", "(J)J"⟩, 3, (some .long), 1762, 138, 1761, 117, 1),
  (9, 0, ⟨"RouteStridesModel", "setOf", "(JI)J"⟩, 8, (some .long), 1758, 138, 1757, 116, 2),
  (9, 1, ⟨"RouteStridesModel", "leastOf", "(J)I"⟩, 3, (some .int), 1765, 138, 1764, 0, 1),
  (9, 0, ⟨"RouteStridesModel", "hands", "(JII)V"⟩, 8, none, 1754, 138, 1753, 115, 3),
  (9, 0, ⟨"RouteStridesModel", "laysFewest", "()V"⟩, 1, none, 1750, 138, 1749, 114, 0),
  (9, 0, ⟨"RouteStridesModel", "fewest", "(II)J"⟩, 3, (some .long), 1746, 138, 1744, 1745, 2),
  (9, 0, ⟨"RouteStridesModel", "areFewest", "()Z"⟩, 3, (some .boolean), 1773, 138, 1772, 118, 0),
  (9, 0, ⟨"RouteStridesModel", "gather", "()I"⟩, 2, (some .int), 1769, 138, 1767, 1768, 0),
  (9, 0, ⟨"RouteStridesModel", "ownAt", "(III)J"⟩, 7, (some .long), 1781, 138, 1780, 119, 3),
  (9, 0, ⟨"RouteStridesModel", "own", "(III)J"⟩, 6, (some .long), 1777, 138, 1775, 1776, 3),
  (9, 0, ⟨"RouteStridesModel", "nodesOf", "(I)I"⟩, 10, (some .int), 1795, 138, 1794, 121, 1),
  (9, 0, ⟨"RouteStridesModel", "slotsIf", "(III)I"⟩, 5, (some .int), 1800, 138, 1799, 122, 3),
  (9, 0, ⟨"RouteStridesModel", "laysSlots", "()V"⟩, 5, none, 1791, 138, 1790, 120, 0),
  (9, 0, ⟨"RouteStridesModel", "stridesOf", "(I)J"⟩, 7, (some .long), 1804, 138, 1803, 123, 1),
  (9, 0, ⟨"RouteStridesModel", "best", "(II)J"⟩, 5, (some .long), 1786, 138, 1784, 1785, 2),
  (9, 0, ⟨"RouteStridesModel", "hops", "()I"⟩, 3, (some .int), 1812, 138, 1811, 124, 0),
  (9, 0, ⟨"RouteStridesModel", "idle", "()I"⟩, 3, (some .int), 1821, 138, 1820, 126, 0),
  (9, 0, ⟨"RouteStridesModel", "allLevels", "(I)I"⟩, 4, (some .int), 1816, 138, 1815, 125, 1),
  (9, 0, ⟨"RouteStridesModel", "keptSet", "()I"⟩, 3, (some .int), 1825, 138, 1824, 127, 0),
  (9, 0, ⟨"RouteStridesModel", "count", "(I)I"⟩, 2, (some .int), 1808, 138, 1806, 1807, 1),
  (10, 1, ⟨"RouteStridesLaw", "law", "([I)Z"⟩, 4, (some .boolean), 0, 0, 0, 0, 1)]
def mts : List xT := mts_0 ++ mts_1 ++ mts_2 ++ mts_3 ++ mts_4 ++ mts_5 ++ mts_6
def fls : List (Nat × Nat × Nat × Nat × Nat) := [(0, 9, 0, 0, 411), (0, 17, 0, 1, 412), (0, 36, 5, 0, 236), (0, 42, 5, 1, 239), (1, 9, 1, 1, 376), (1, 15, 1, 2, 379), (1, 19, 1, 3, 382), (1, 22, 1, 4, 385), (1, 25, 1, 5, 386), (1, 28, 1, 6, 387), (1, 32, 1, 0, 373), (1, 53, 5, 3, 246), (1, 54, 5, 2, 242), (2, 9, 2, 0, 356), (2, 15, 2, 1, 358), (2, 18, 2, 2, 359), (2, 45, 3, 3, 292), (2, 51, 3, 4, 295), (2, 71, 3, 6, 300), (3, 9, 3, 1, 287), (3, 15, 3, 2, 289), (3, 19, 3, 3, 291), (3, 22, 3, 4, 294), (3, 25, 3, 5, 297), (3, 28, 3, 6, 299), (3, 31, 3, 7, 301), (3, 34, 3, 8, 303), (3, 37, 3, 9, 304), (3, 40, 3, 10, 305), (3, 43, 3, 11, 306), (3, 46, 3, 12, 307), (3, 49, 3, 13, 308), (3, 52, 3, 14, 309), (3, 55, 6, 6, 202), (3, 67, 3, 15, 310), (3, 68, 6, 7, 207), (3, 69, 3, 0, 285), (3, 72, 3, 16, 311), (3, 89, 5, 2, 243), (3, 92, 5, 3, 247), (3, 95, 5, 4, 250), (3, 124, 3, 17, 312), (4, 9, 4, 1, 426), (4, 15, 4, 2, 428), (4, 19, 4, 0, 424), (5, 9, 5, 1, 238), (5, 15, 5, 2, 241), (5, 18, 5, 3, 245), (5, 22, 5, 4, 249), (5, 25, 5, 5, 251), (5, 28, 5, 6, 253), (5, 31, 5, 7, 255), (5, 34, 5, 0, 235), (5, 38, 5, 8, 256), (5, 41, 5, 9, 257), (5, 45, 6, 0, 185), (5, 50, 6, 1, 189), (5, 69, 6, 2, 192), (5, 76, 6, 3, 195), (5, 77, 6, 4, 198), (6, 9, 6, 1, 188), (6, 15, 6, 2, 191), (6, 19, 6, 3, 194), (6, 22, 6, 4, 197), (6, 25, 6, 5, 200), (6, 28, 6, 7, 206), (6, 34, 6, 6, 203), (6, 38, 6, 0, 186), (6, 79, 1, 0, 374), (6, 84, 1, 1, 377), (6, 85, 1, 2, 380), (6, 86, 1, 3, 383), (7, 11, 7, 1, 162), (7, 15, 7, 0, 160), (7, 24, 7, 2, 163), (7, 27, 7, 3, 164), (7, 86, 6, 7, 208), (7, 89, 6, 6, 204), (8, 12, 8, 0, 437), (8, 19, 8, 1, 438), (8, 23, 8, 2, 439), (8, 26, 8, 3, 440), (8, 30, 8, 4, 441), (8, 36, 8, 9, 446), (8, 40, 8, 10, 447), (8, 46, 8, 11, 448), (8, 50, 8, 12, 449), (8, 56, 8, 13, 450), (8, 63, 8, 14, 451), (8, 70, 8, 15, 452), (8, 77, 8, 16, 453), (8, 89, 7, 0, 161), (8, 104, 6, 0, 187), (8, 144, 4, 0, 425), (8, 145, 4, 1, 427), (8, 149, 4, 2, 429), (8, 168, 6, 6, 205), (8, 185, 8, 5, 442), (8, 188, 8, 7, 444), (8, 191, 8, 8, 445), (8, 194, 8, 6, 443), (8, 217, 3, 7, 302), (8, 241, 6, 1, 190), (8, 242, 6, 2, 193), (8, 243, 6, 3, 196), (8, 246, 5, 5, 252), (8, 249, 5, 6, 254), (8, 255, 6, 4, 199), (8, 258, 6, 5, 201), (8, 269, 3, 3, 293), (8, 272, 3, 4, 296), (8, 275, 3, 2, 290), (8, 278, 3, 1, 288), (8, 282, 3, 5, 298), (8, 300, 2, 0, 357), (8, 303, 6, 7, 209), (8, 318, 5, 0, 237), (8, 319, 5, 1, 240), (8, 322, 5, 2, 244), (8, 325, 5, 3, 248), (8, 342, 1, 0, 375), (8, 343, 1, 2, 381), (8, 344, 1, 1, 378), (8, 345, 1, 3, 384), (8, 358, 3, 0, 286), (9, 7, 9, 0, 1195), (9, 13, 9, 1, 1196), (9, 16, 9, 3, 1198), (9, 19, 9, 4, 1199), (9, 23, 9, 6, 1201), (9, 26, 9, 7, 1202), (9, 30, 9, 8, 1203), (9, 33, 9, 9, 1204), (9, 36, 9, 10, 1205), (9, 39, 9, 11, 1206), (9, 42, 9, 13, 1208), (9, 45, 9, 14, 1209), (9, 48, 9, 16, 1211), (9, 51, 9, 17, 1212), (9, 54, 9, 18, 1213), (9, 57, 9, 23, 1218), (9, 60, 9, 27, 1222), (9, 63, 9, 28, 1223), (9, 66, 9, 30, 1225), (9, 69, 9, 31, 1226), (9, 72, 9, 33, 1228), (9, 75, 9, 34, 1229), (9, 79, 9, 41, 1236), (9, 82, 9, 42, 1237), (9, 85, 9, 43, 1238), (9, 88, 9, 44, 1239), (9, 92, 9, 45, 1240), (9, 95, 9, 47, 1242), (9, 98, 9, 48, 1243), (9, 101, 9, 49, 1244), (9, 104, 9, 50, 1245), (9, 107, 9, 51, 1246), (9, 167, 9, 12, 1207), (9, 205, 9, 15, 1210), (9, 208, 9, 19, 1214), (9, 224, 9, 20, 1215), (9, 228, 9, 21, 1216), (9, 231, 9, 22, 1217), (9, 247, 9, 24, 1219), (9, 250, 9, 25, 1220), (9, 253, 9, 26, 1221), (9, 266, 9, 2, 1197), (9, 276, 9, 5, 1200), (9, 310, 9, 29, 1224), (9, 318, 9, 32, 1227), (9, 344, 9, 35, 1230), (9, 347, 9, 36, 1231), (9, 360, 9, 37, 1232), (9, 366, 9, 39, 1234), (9, 372, 9, 38, 1233), (9, 399, 9, 40, 1235), (9, 498, 9, 46, 1241)]
def mls : List (Nat × Nat × Nat × Nat × Nat) := [(0, 20, 2, 0, 1069), (0, 26, 4, 0, 1075), (0, 32, 120, 1, 1073), (0, 45, 3, 0, 1079), (0, 55, 5, 0, 1088), (1, 35, 10, 0, 768), (1, 39, 11, 0, 779), (1, 43, 49, 0, 772), (1, 49, 120, 1, 777), (1, 59, 12, 0, 783), (1, 63, 13, 0, 792), (1, 67, 0, 0, 786), (2, 21, 26, 0, 996), (2, 27, 25, 0, 1000), (2, 30, 15, 0, 1004), (2, 34, 16, 0, 1008), (2, 37, 39, 0, 1021), (2, 41, 17, 0, 1022), (2, 54, 28, 0, 1013), (2, 57, 29, 0, 1014), (2, 61, 0, 0, 1015), (2, 67, 18, 0, 1016), (2, 74, 24, 0, 1020), (3, 75, 21, 0, 846), (3, 79, 22, 0, 850), (3, 83, 49, 0, 854), (3, 98, 23, 0, 855), (3, 105, 24, 0, 866), (3, 109, 27, 0, 878), (3, 113, 0, 0, 882), (3, 121, 32, 0, 887), (3, 127, 34, 0, 870), (3, 130, 31, 0, 874), (3, 133, 26, 0, 1110), (3, 136, 25, 0, 1111), (3, 139, 120, 1, 1112), (3, 143, 41, 0, 908), (3, 147, 39, 0, 912), (4, 23, 43, 0, 711), (4, 27, 120, 1, 714), (5, 53, 47, 0, 749), (5, 57, 46, 0, 753), (5, 61, 48, 0, 758), (5, 72, 120, 1, 757), (6, 31, 53, 0, 181), (6, 41, 56, 0, 655), (6, 47, 59, 0, 724), (6, 50, 60, 0, 566), (6, 54, 62, 0, 574), (6, 58, 120, 1, 832), (6, 62, 61, 0, 562), (6, 65, 64, 0, 570), (6, 69, 69, 0, 578), (6, 73, 67, 0, 582), (6, 76, 70, 0, 586), (7, 19, 54, 0, 513), (7, 30, 76, 0, 517), (7, 34, 82, 0, 647), (7, 38, 80, 0, 536), (7, 42, 83, 0, 521), (7, 46, 85, 0, 529), (7, 50, 77, 0, 532), (7, 53, 81, 0, 590), (7, 63, 78, 0, 643), (7, 66, 86, 0, 540), (7, 70, 79, 0, 544), (7, 74, 120, 1, 551), (7, 78, 123, 1, 555), (7, 82, 66, 0, 558), (7, 92, 84, 0, 525), (8, 81, 73, 0, 493), (8, 85, 74, 0, 497), (8, 93, 75, 0, 509), (8, 97, 55, 0, 651), (8, 101, 129, 0, 659), (8, 107, 121, 0, 668), (8, 111, 122, 0, 676), (8, 114, 123, 0, 679), (8, 118, 124, 0, 680), (8, 122, 127, 0, 686), (8, 125, 119, 0, 671), (8, 129, 66, 0, 694), (8, 133, 61, 0, 684), (8, 137, 68, 0, 699), (8, 140, 42, 0, 707), (8, 153, 64, 0, 685), (8, 157, 58, 0, 719), (8, 161, 57, 0, 728), (8, 165, 56, 0, 732), (8, 171, 135, 0, 737), (8, 174, 9, 0, 796), (8, 177, 71, 0, 800), (8, 181, 72, 0, 804), (8, 197, 125, 0, 820), (8, 201, 65, 0, 828), (8, 205, 126, 0, 833), (8, 208, 133, 0, 837), (8, 211, 35, 0, 862), (8, 214, 36, 0, 883), (8, 220, 131, 0, 900), (8, 223, 60, 0, 920), (8, 226, 120, 0, 675), (8, 231, 132, 0, 741), (8, 234, 45, 0, 745), (8, 237, 52, 0, 926), (8, 252, 62, 0, 947), (8, 263, 51, 0, 953), (8, 266, 24, 0, 961), (8, 279, 28, 0, 962), (8, 285, 29, 0, 970), (8, 288, 27, 0, 978), (8, 291, 31, 0, 979), (8, 294, 33, 0, 980), (8, 297, 134, 0, 988), (8, 306, 26, 0, 1030), (8, 309, 25, 0, 1031), (8, 312, 30, 0, 1032), (8, 315, 19, 0, 1036), (8, 326, 44, 0, 1048), (8, 330, 136, 0, 1061), (8, 333, 6, 0, 1084), (8, 336, 5, 0, 1092), (8, 339, 7, 0, 1093), (8, 346, 38, 0, 1106), (8, 350, 137, 0, 1113), (8, 354, 63, 0, 1121), (8, 359, 50, 0, 1125), (8, 362, 130, 0, 1129), (8, 365, 37, 0, 1133), (8, 372, 128, 0, 690), (8, 375, 20, 0, 841), (8, 379, 40, 0, 904), (8, 383, 14, 0, 992), (8, 386, 8, 0, 764), (8, 390, 1, 0, 1065), (9, 110, 139, 0, 1144), (9, 113, 160, 0, 1148), (9, 121, 138, 0, 1177), (9, 125, 140, 0, 1164), (9, 129, 141, 0, 1171), (9, 136, 144, 0, 1393), (9, 139, 147, 0, 1425), (9, 143, 146, 0, 1417), (9, 146, 145, 0, 1389), (9, 150, 150, 0, 1405), (9, 154, 151, 0, 1409), (9, 158, 149, 0, 1413), (9, 162, 148, 0, 1421), (9, 171, 155, 0, 1161), (9, 175, 156, 0, 1168), (9, 178, 154, 0, 1156), (9, 182, 157, 0, 1174), (9, 186, 158, 0, 1152), (9, 190, 159, 0, 1180), (9, 194, 167, 0, 1183), (9, 197, 162, 0, 1445), (9, 201, 161, 0, 1449), (9, 212, 166, 0, 1187), (9, 216, 165, 0, 1191), (9, 220, 163, 0, 1441), (9, 234, 171, 0, 1461), (9, 237, 170, 0, 1465), (9, 240, 164, 0, 1469), (9, 243, 172, 0, 1457), (9, 256, 168, 0, 1437), (9, 260, 173, 0, 1453), (9, 269, 174, 0, 1433), (9, 273, 175, 0, 1473), (9, 279, 178, 0, 1357), (9, 282, 180, 0, 1365), (9, 286, 142, 0, 1376), (9, 290, 143, 0, 1380), (9, 293, 183, 0, 1385), (9, 297, 176, 0, 1397), (9, 300, 152, 0, 1401), (9, 304, 177, 0, 1429), (9, 307, 153, 0, 1482), (9, 313, 187, 0, 1494), (9, 327, 190, 0, 1512), (9, 330, 191, 0, 1518), (9, 333, 193, 0, 1507), (9, 337, 194, 0, 1522), (9, 341, 192, 0, 1526), (9, 350, 198, 0, 1555), (9, 353, 199, 0, 1551), (9, 363, 200, 0, 1571), (9, 369, 201, 0, 1577), (9, 390, 202, 0, 1567), (9, 393, 203, 0, 1585), (9, 402, 204, 0, 1546), (9, 405, 205, 0, 1563), (9, 408, 206, 0, 1581), (9, 411, 207, 0, 1542), (9, 414, 211, 0, 1602), (9, 417, 210, 0, 1598), (9, 421, 209, 0, 1594), (9, 424, 212, 0, 1606), (9, 427, 213, 0, 1610), (9, 430, 169, 0, 1618), (9, 433, 220, 0, 1634), (9, 436, 218, 0, 1638), (9, 439, 219, 0, 1642), (9, 444, 223, 0, 1654), (9, 447, 226, 0, 1667), (9, 452, 227, 0, 1672), (9, 455, 229, 0, 1680), (9, 458, 231, 0, 1692), (9, 461, 232, 0, 1688), (9, 464, 234, 0, 1704), (9, 467, 235, 0, 1708), (9, 470, 236, 0, 1700), (9, 473, 238, 0, 1716), (9, 476, 239, 0, 1720), (9, 487, 243, 0, 1759), (9, 491, 244, 0, 1755), (9, 495, 245, 0, 1763), (9, 501, 246, 0, 1751), (9, 505, 247, 0, 1747), (9, 508, 249, 0, 1770), (9, 511, 251, 0, 1778), (9, 518, 253, 0, 1792), (9, 521, 254, 0, 1797), (9, 527, 255, 0, 1788), (9, 530, 256, 0, 1801), (9, 533, 240, 0, 1817), (9, 536, 258, 0, 1809), (9, 539, 260, 0, 1813), (9, 542, 259, 0, 1818), (9, 545, 261, 0, 1822), (10, 13, 87, 0, 489), (10, 17, 196, 0, 1530), (10, 18, 88, 0, 501), (10, 22, 197, 0, 1534), (10, 23, 89, 0, 505), (10, 27, 208, 0, 1538), (10, 28, 90, 0, 664), (10, 32, 184, 0, 1372), (10, 33, 91, 0, 695), (10, 37, 185, 0, 1478), (10, 38, 92, 0, 703), (10, 41, 189, 0, 1499), (10, 44, 93, 0, 715), (10, 48, 195, 0, 1503), (10, 49, 94, 0, 733), (10, 52, 250, 0, 1766), (10, 53, 95, 0, 808), (10, 56, 179, 0, 1353), (10, 57, 96, 0, 812), (10, 60, 181, 0, 1361), (10, 61, 97, 0, 816), (10, 64, 182, 0, 1368), (10, 65, 98, 0, 824), (10, 68, 214, 0, 1590), (10, 69, 99, 0, 892), (10, 72, 215, 0, 1614), (10, 73, 100, 0, 896), (10, 76, 186, 0, 1486), (10, 77, 101, 0, 916), (10, 81, 216, 0, 1622), (10, 82, 102, 0, 921), (10, 86, 217, 0, 1626), (10, 87, 103, 0, 935), (10, 90, 221, 0, 1630), (10, 91, 104, 0, 939), (10, 95, 222, 0, 1646), (10, 96, 105, 0, 943), (10, 99, 224, 0, 1650), (10, 100, 106, 0, 948), (10, 103, 225, 0, 1659), (10, 104, 107, 0, 957), (10, 107, 228, 0, 1663), (10, 108, 108, 0, 966), (10, 111, 230, 0, 1676), (10, 112, 109, 0, 974), (10, 115, 233, 0, 1684), (10, 116, 110, 0, 984), (10, 119, 237, 0, 1696), (10, 120, 111, 0, 1026), (10, 123, 240, 0, 1712), (10, 124, 112, 0, 1040), (10, 127, 241, 0, 1724), (10, 128, 113, 0, 1044), (10, 132, 188, 0, 1490), (10, 133, 114, 0, 1053), (10, 137, 252, 0, 1774), (10, 138, 115, 0, 1057), (10, 141, 257, 0, 1783), (10, 142, 116, 0, 1098), (10, 145, 248, 0, 1743), (10, 146, 117, 0, 1102), (10, 150, 242, 0, 1728), (10, 151, 118, 0, 1117), (10, 154, 262, 0, 1805)]
def cls_ : List (Nat × Nat × Nat × Int × Nat) := [(0, 24, 1, 1152921504606846976, 1074), (0, 30, 1, (-1), 1072), (0, 58, 1, 10, 1097), (1, 57, 1, 2, 778), (2, 49, 1, 31, 1012), (3, 119, 1, 2, 891), (4, 31, 1, (-2), 1052), (5, 65, 1, 4294967296, 762), (5, 67, 1, 4294967295, 763), (5, 92, 1, (-2), 934), (6, 45, 1, 10, 723), (8, 229, 1, (-1), 925), (8, 261, 1, (-2), 952), (8, 368, 1, 4294967295, 674), (8, 370, 1, 4294967296, 554), (8, 393, 1, 4503599627370495, 1116), (9, 91, 0, 128000, 1143), (9, 117, 1, 4294967295, 1167), (9, 119, 1, 32, 1379), (9, 132, 1, 99, 1383), (9, 134, 1, 9, 1384), (9, 165, 1, 4294967296, 1160), (9, 264, 1, (-1), 1477), (9, 316, 1, (-2), 1498), (9, 321, 1, 2, 1516), (9, 323, 1, 6, 1517), (9, 325, 1, 10, 1511), (9, 356, 1, 48, 1575), (9, 358, 1, 57, 1576), (9, 386, 1, 97, 1561), (9, 388, 1, 122, 1562), (9, 397, 1, 256, 1589), (9, 442, 1, 60, 1658), (9, 450, 1, 5, 1671), (9, 515, 1, (-3), 1782), (9, 517, 0, 1000000000, 1796), (9, 525, 1, 16, 1787), (10, 42, 1, 4294967295, 1826), (12, 314, 1, 6148914691236517205, 789), (12, 316, 1, 3689348814741910323, 790), (12, 318, 1, 1085102592571150095, 791), (9, 479, 2, 4751297606875873280, 1732)]
/-- the name of a class by its number -/
def xcn (i : Nat) : String := xcns.getD i ""
def xfld (ci k : Nat) : Nat × Nat × Int := (xfs.getD ci []).getD k (9, 0, 0)
def xfokB (q : Nat × Nat × Nat × Nat × Nat) : Bool := match xcl[q.2.2.1]? with
  | some (C, T, n) => Nat.blt q.2.2.2.1 n && (decide ((T q.2.2.2.1).1 = C) && decide (lw_tbl[q.2.2.2.2]? = some (Cond.fieldLink (xcn q.1) q.2.1 (T q.2.2.2.1).1 (T q.2.2.2.1).2.1 (T q.2.2.2.1).2.2.1)))
  | none => false
theorem fls_ok : fls.all xfokB = true := by decide +kernel
/-- the words that stay good along calls -/
def xTT : List Cond := lw_tbl.filter goodWord
theorem tt_mem {w : Cond} {i : Nat} (h : lw_tbl[i]? = some w) (g : goodWord w = true) : w ∈ xTT := List.mem_filter.mpr ⟨List.mem_of_getElem? h, g⟩
theorem tt_good : GoodIn xTT xTT := fun w h => ⟨h, good_of_word (List.mem_filter.mp h).2⟩
theorem tt_tbl {w : Cond} (h : w ∈ xTT) : w ∈ lw_tbl := (List.mem_filter.mp h).1
/-- a method's code, out of its word -/
def xbyt (pos : Nat) : ByteArray := match lw_tbl[pos]? with
  | some (.code _ b _ _) => b
  | _ => .empty
def xtok (q : xT) : Bool := match q with
  | (own, st, y, maxL, ret, pc, pi, pk, ps, np) => decide (xcn own = y.cls) && ((match lw_tbl[pc]? with
    | some (.code y2 _ m2 r2) => decide (y2 = y) && (decide (m2 = maxL) && decide (r2 = ret))
    | _ => false) && (decide (lw_tbl[pi]? = some (Cond.initialized y.cls)) && ((match st with
    | 0 => decide (lw_tbl[pk]? = some (Cond.instanceMethod y)) && decide (lw_tbl[ps]? = some (Cond.selects y.cls y y))
    | _ => decide (lw_tbl[pk]? = some (Cond.static y))) && (plainName y.cls && (decide (y.cls ≠ "java/lang/invoke/MethodHandle") && (decide (y.cls ≠ "java/lang/invoke/VarHandle") && decide ((parseMethodDescriptor y.desc).map (fun d => d.parameters.length) = some np)))))))

theorem mts_ok_0 : mts_0.all xtok = true := by decide +kernel
theorem mts_ok_1 : mts_1.all xtok = true := by decide +kernel
theorem mts_ok_2 : mts_2.all xtok = true := by decide +kernel
theorem mts_ok_3 : mts_3.all xtok = true := by decide +kernel
theorem mts_ok_4 : mts_4.all xtok = true := by decide +kernel
theorem mts_ok_5 : mts_5.all xtok = true := by decide +kernel
theorem mts_ok_6 : (mts_6.dropLast).all xtok = true := by decide +kernel
def xmok (q : Nat × Nat × Nat × Nat × Nat) : Bool := match q with
  | (own, idx, k, nest, pos) => match mts[k]? with
    | some t => match nest with
      | 0 => decide (lw_tbl[pos]? = some (Cond.methodLink (xcn own) idx t.2.2.1))
      | _ => decide (lw_tbl[pos]? = some (Cond.methodLinkNest (xcn own) idx t.2.2.1 "RouteStrides"))
    | none => false
theorem mls_ok : mls.all xmok = true := by decide +kernel
def xcok (q : Nat × Nat × Nat × Int × Nat) : Bool := match q with
  | (own, idx, kind, v, pos) => match kind with
    | 0 => decide (-2147483648 ≤ v) && (decide (v < 2147483648) && decide (lw_tbl[pos]? = some (Cond.constant (xcn own) idx (Int32.ofInt v))))
    | 1 => decide (-9223372036854775808 ≤ v) && (decide (v < 9223372036854775808) && decide (lw_tbl[pos]? = some (Cond.constantLong (xcn own) idx (Int64.ofInt v))))
    | _ => decide (0 ≤ v) && (decide (v < 18446744073709551616) && decide (lw_tbl[pos]? = some (Cond.constantDouble (xcn own) idx (UInt64.ofNat v.toNat))))
theorem cls_ok : cls_.all xcok = true := by decide +kernel
