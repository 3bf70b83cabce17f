section
-- ===== PART A: goes FIRST, ahead of the names: the tables' words, and 'selects' of the private methods out of them =====
/-- a private method of a class that the tables say can be made, by its rows of tables_1 -/
def lw_okq (q : MethodName × Nat) : Prop := (q.1.cls ≠ "java/lang/invoke/MethodHandle" ∧ q.1.cls ≠ "java/lang/invoke/VarHandle") ∧ Cond.instantiable q.1.cls q.2 ∈ tables_1 ∧ Cond.privateMethod q.1 ∈ tables_1 ∧ Cond.instanceMethod q.1 ∈ tables_1
theorem lw_p0 : lw_okq (⟨"RouteStrides$Table", "takeFirstStrides", "()V"⟩, 8) := ⟨⟨by decide +kernel, by decide +kernel⟩, List.mem_of_getElem? (i := 48) (by decide +kernel), List.mem_of_getElem? (i := 54) (by decide +kernel), List.mem_of_getElem? (i := 55) (by decide +kernel)⟩
theorem lw_p1 : lw_okq (⟨"RouteStrides$Tape", "readLine", "(LRouteStrides$Table;)V"⟩, 4) := ⟨⟨by decide +kernel, by decide +kernel⟩, List.mem_of_getElem? (i := 27) (by decide +kernel), List.mem_of_getElem? (i := 390) (by decide +kernel), List.mem_of_getElem? (i := 391) (by decide +kernel)⟩
theorem lw_p2 : lw_okq (⟨"RouteStrides$Tape", "nextSign", "()I"⟩, 4) := ⟨⟨by decide +kernel, by decide +kernel⟩, List.mem_of_getElem? (i := 27) (by decide +kernel), List.mem_of_getElem? (i := 394) (by decide +kernel), List.mem_of_getElem? (i := 395) (by decide +kernel)⟩
theorem lw_p3 : lw_okq (⟨"RouteStrides$Tape", "signAt", "(I)I"⟩, 4) := ⟨⟨by decide +kernel, by decide +kernel⟩, List.mem_of_getElem? (i := 27) (by decide +kernel), List.mem_of_getElem? (i := 398) (by decide +kernel), List.mem_of_getElem? (i := 399) (by decide +kernel)⟩
theorem lw_p4 : lw_okq (⟨"RouteStrides$Tape", "readRule", "(LRouteStrides$Table;)V"⟩, 4) := ⟨⟨by decide +kernel, by decide +kernel⟩, List.mem_of_getElem? (i := 27) (by decide +kernel), List.mem_of_getElem? (i := 405) (by decide +kernel), List.mem_of_getElem? (i := 406) (by decide +kernel)⟩
theorem lw_p5 : lw_okq (⟨"RouteStrides$Tape", "expect", "(C)V"⟩, 4) := ⟨⟨by decide +kernel, by decide +kernel⟩, List.mem_of_getElem? (i := 27) (by decide +kernel), List.mem_of_getElem? (i := 409) (by decide +kernel), List.mem_of_getElem? (i := 410) (by decide +kernel)⟩
theorem lw_p6 : lw_okq (⟨"RouteStrides$Tape", "fail", "(II)V"⟩, 4) := ⟨⟨by decide +kernel, by decide +kernel⟩, List.mem_of_getElem? (i := 27) (by decide +kernel), List.mem_of_getElem? (i := 413) (by decide +kernel), List.mem_of_getElem? (i := 414) (by decide +kernel)⟩
theorem lw_p7 : lw_okq (⟨"RouteStrides$Tape", "readNumber", "(I)I"⟩, 4) := ⟨⟨by decide +kernel, by decide +kernel⟩, List.mem_of_getElem? (i := 27) (by decide +kernel), List.mem_of_getElem? (i := 417) (by decide +kernel), List.mem_of_getElem? (i := 418) (by decide +kernel)⟩
theorem lw_p8 : lw_okq (⟨"RouteStrides$Table", "release", "(I)V"⟩, 8) := ⟨⟨by decide +kernel, by decide +kernel⟩, List.mem_of_getElem? (i := 48) (by decide +kernel), List.mem_of_getElem? (i := 451) (by decide +kernel), List.mem_of_getElem? (i := 452) (by decide +kernel)⟩
theorem lw_p9 : lw_okq (⟨"RouteStrides$Table", "makeRoom", "(JI)I"⟩, 8) := ⟨⟨by decide +kernel, by decide +kernel⟩, List.mem_of_getElem? (i := 48) (by decide +kernel), List.mem_of_getElem? (i := 455) (by decide +kernel), List.mem_of_getElem? (i := 456) (by decide +kernel)⟩
theorem lw_p10 : lw_okq (⟨"RouteStrides$Table", "takeHop", "(I)I"⟩, 8) := ⟨⟨by decide +kernel, by decide +kernel⟩, List.mem_of_getElem? (i := 48) (by decide +kernel), List.mem_of_getElem? (i := 459) (by decide +kernel), List.mem_of_getElem? (i := 460) (by decide +kernel)⟩
theorem lw_p11 : lw_okq (⟨"RouteStrides$Tape", "isStrides", "()Z"⟩, 4) := ⟨⟨by decide +kernel, by decide +kernel⟩, List.mem_of_getElem? (i := 27) (by decide +kernel), List.mem_of_getElem? (i := 463) (by decide +kernel), List.mem_of_getElem? (i := 464) (by decide +kernel)⟩
theorem lw_p12 : lw_okq (⟨"RouteStrides$Tape", "readStrides", "(LRouteStrides$Table;)V"⟩, 4) := ⟨⟨by decide +kernel, by decide +kernel⟩, List.mem_of_getElem? (i := 27) (by decide +kernel), List.mem_of_getElem? (i := 516) (by decide +kernel), List.mem_of_getElem? (i := 517) (by decide +kernel)⟩
theorem lw_p13 : lw_okq (⟨"RouteStrides$Tape", "atEnd", "()Z"⟩, 4) := ⟨⟨by decide +kernel, by decide +kernel⟩, List.mem_of_getElem? (i := 27) (by decide +kernel), List.mem_of_getElem? (i := 520) (by decide +kernel), List.mem_of_getElem? (i := 521) (by decide +kernel)⟩
theorem lw_p14 : lw_okq (⟨"RouteStrides", "forgetActs", "()V"⟩, 17) := ⟨⟨by decide +kernel, by decide +kernel⟩, List.mem_of_getElem? (i := 19) (by decide +kernel), List.mem_of_getElem? (i := 532) (by decide +kernel), List.mem_of_getElem? (i := 533) (by decide +kernel)⟩
theorem lw_p15 : lw_okq (⟨"RouteStrides", "stateOf", "(III)I"⟩, 17) := ⟨⟨by decide +kernel, by decide +kernel⟩, List.mem_of_getElem? (i := 19) (by decide +kernel), List.mem_of_getElem? (i := 553) (by decide +kernel), List.mem_of_getElem? (i := 554) (by decide +kernel)⟩
def lw_privs_1 : List (MethodName × Nat) := [(⟨"RouteStrides$Table", "takeFirstStrides", "()V"⟩, 8), (⟨"RouteStrides$Tape", "readLine", "(LRouteStrides$Table;)V"⟩, 4), (⟨"RouteStrides$Tape", "nextSign", "()I"⟩, 4), (⟨"RouteStrides$Tape", "signAt", "(I)I"⟩, 4), (⟨"RouteStrides$Tape", "readRule", "(LRouteStrides$Table;)V"⟩, 4), (⟨"RouteStrides$Tape", "expect", "(C)V"⟩, 4), (⟨"RouteStrides$Tape", "fail", "(II)V"⟩, 4), (⟨"RouteStrides$Tape", "readNumber", "(I)I"⟩, 4), (⟨"RouteStrides$Table", "release", "(I)V"⟩, 8), (⟨"RouteStrides$Table", "makeRoom", "(JI)I"⟩, 8), (⟨"RouteStrides$Table", "takeHop", "(I)I"⟩, 8), (⟨"RouteStrides$Tape", "isStrides", "()Z"⟩, 4), (⟨"RouteStrides$Tape", "readStrides", "(LRouteStrides$Table;)V"⟩, 4), (⟨"RouteStrides$Tape", "atEnd", "()Z"⟩, 4), (⟨"RouteStrides", "forgetActs", "()V"⟩, 17), (⟨"RouteStrides", "stateOf", "(III)I"⟩, 17)]
theorem lw_r1 : ∀ q ∈ lw_privs_1, lw_okq q := List.forall_mem_cons.mpr ⟨lw_p0, List.forall_mem_cons.mpr ⟨lw_p1, List.forall_mem_cons.mpr ⟨lw_p2, List.forall_mem_cons.mpr ⟨lw_p3, List.forall_mem_cons.mpr ⟨lw_p4, List.forall_mem_cons.mpr ⟨lw_p5, List.forall_mem_cons.mpr ⟨lw_p6, List.forall_mem_cons.mpr ⟨lw_p7, List.forall_mem_cons.mpr ⟨lw_p8, List.forall_mem_cons.mpr ⟨lw_p9, List.forall_mem_cons.mpr ⟨lw_p10, List.forall_mem_cons.mpr ⟨lw_p11, List.forall_mem_cons.mpr ⟨lw_p12, List.forall_mem_cons.mpr ⟨lw_p13, List.forall_mem_cons.mpr ⟨lw_p14, List.forall_mem_cons.mpr ⟨lw_p15, fun _ h => absurd h List.not_mem_nil⟩⟩⟩⟩⟩⟩⟩⟩⟩⟩⟩⟩⟩⟩⟩⟩
theorem lw_p16 : lw_okq (⟨"RouteStrides", "beginAct", "()V"⟩, 17) := ⟨⟨by decide +kernel, by decide +kernel⟩, List.mem_of_getElem? (i := 19) (by decide +kernel), List.mem_of_getElem? (i := 559) (by decide +kernel), List.mem_of_getElem? (i := 560) (by decide +kernel)⟩
theorem lw_p17 : lw_okq (⟨"RouteStrides", "dropOldestAct", "()V"⟩, 17) := ⟨⟨by decide +kernel, by decide +kernel⟩, List.mem_of_getElem? (i := 19) (by decide +kernel), List.mem_of_getElem? (i := 563) (by decide +kernel), List.mem_of_getElem? (i := 564) (by decide +kernel)⟩
theorem lw_p18 : lw_okq (⟨"RouteStrides$Table", "turnStrides", "()V"⟩, 8) := ⟨⟨by decide +kernel, by decide +kernel⟩, List.mem_of_getElem? (i := 48) (by decide +kernel), List.mem_of_getElem? (i := 597) (by decide +kernel), List.mem_of_getElem? (i := 598) (by decide +kernel)⟩
theorem lw_p19 : lw_okq (⟨"RouteStrides", "seeFewest", "()V"⟩, 17) := ⟨⟨by decide +kernel, by decide +kernel⟩, List.mem_of_getElem? (i := 19) (by decide +kernel), List.mem_of_getElem? (i := 610) (by decide +kernel), List.mem_of_getElem? (i := 611) (by decide +kernel)⟩
theorem lw_p20 : lw_okq (⟨"RouteStrides", "seeSpans", "()V"⟩, 17) := ⟨⟨by decide +kernel, by decide +kernel⟩, List.mem_of_getElem? (i := 19) (by decide +kernel), List.mem_of_getElem? (i := 614) (by decide +kernel), List.mem_of_getElem? (i := 615) (by decide +kernel)⟩
theorem lw_p21 : lw_okq (⟨"RouteStrides$Spans", "closeAhead", "(JLRouteStrides$Table;)V"⟩, 10) := ⟨⟨by decide +kernel, by decide +kernel⟩, List.mem_of_getElem? (i := 102) (by decide +kernel), List.mem_of_getElem? (i := 622) (by decide +kernel), List.mem_of_getElem? (i := 623) (by decide +kernel)⟩
theorem lw_p22 : lw_okq (⟨"RouteStrides$Spans", "innermost", "()I"⟩, 10) := ⟨⟨by decide +kernel, by decide +kernel⟩, List.mem_of_getElem? (i := 102) (by decide +kernel), List.mem_of_getElem? (i := 626) (by decide +kernel), List.mem_of_getElem? (i := 627) (by decide +kernel)⟩
theorem lw_p23 : lw_okq (⟨"RouteStrides$Spans", "emit", "(IJLRouteStrides$Table;)V"⟩, 10) := ⟨⟨by decide +kernel, by decide +kernel⟩, List.mem_of_getElem? (i := 102) (by decide +kernel), List.mem_of_getElem? (i := 631) (by decide +kernel), List.mem_of_getElem? (i := 632) (by decide +kernel)⟩
theorem lw_p24 : lw_okq (⟨"RouteStrides$Fewest", "part", "(LRouteStrides$Spans;JII)I"⟩, 7) := ⟨⟨by decide +kernel, by decide +kernel⟩, List.mem_of_getElem? (i := 240) (by decide +kernel), List.mem_of_getElem? (i := 641) (by decide +kernel), List.mem_of_getElem? (i := 642) (by decide +kernel)⟩
theorem lw_p25 : lw_okq (⟨"RouteStrides$Fewest", "hand", "(IJII)V"⟩, 7) := ⟨⟨by decide +kernel, by decide +kernel⟩, List.mem_of_getElem? (i := 240) (by decide +kernel), List.mem_of_getElem? (i := 652) (by decide +kernel), List.mem_of_getElem? (i := 653) (by decide +kernel)⟩
theorem lw_p26 : lw_okq (⟨"RouteStrides$Fewest", "append", "(JII)V"⟩, 7) := ⟨⟨by decide +kernel, by decide +kernel⟩, List.mem_of_getElem? (i := 240) (by decide +kernel), List.mem_of_getElem? (i := 665) (by decide +kernel), List.mem_of_getElem? (i := 666) (by decide +kernel)⟩
theorem lw_p27 : lw_okq (⟨"RouteStrides", "isKept", "(I)Z"⟩, 17) := ⟨⟨by decide +kernel, by decide +kernel⟩, List.mem_of_getElem? (i := 19) (by decide +kernel), List.mem_of_getElem? (i := 693) (by decide +kernel), List.mem_of_getElem? (i := 694) (by decide +kernel)⟩
theorem lw_p28 : lw_okq (⟨"RouteStrides", "lookAtRules", "(II)I"⟩, 17) := ⟨⟨by decide +kernel, by decide +kernel⟩, List.mem_of_getElem? (i := 19) (by decide +kernel), List.mem_of_getElem? (i := 706) (by decide +kernel), List.mem_of_getElem? (i := 707) (by decide +kernel)⟩
theorem lw_p29 : lw_okq (⟨"RouteStrides", "seeNodes", "()V"⟩, 17) := ⟨⟨by decide +kernel, by decide +kernel⟩, List.mem_of_getElem? (i := 19) (by decide +kernel), List.mem_of_getElem? (i := 710) (by decide +kernel), List.mem_of_getElem? (i := 711) (by decide +kernel)⟩
theorem lw_p30 : lw_okq (⟨"RouteStrides$Nodes", "append", "(JIII)V"⟩, 18) := ⟨⟨by decide +kernel, by decide +kernel⟩, List.mem_of_getElem? (i := 152) (by decide +kernel), List.mem_of_getElem? (i := 719) (by decide +kernel), List.mem_of_getElem? (i := 720) (by decide +kernel)⟩
theorem lw_p31 : lw_okq (⟨"RouteStrides$Nodes", "fill", "(IILRouteStrides$Spans;)V"⟩, 18) := ⟨⟨by decide +kernel, by decide +kernel⟩, List.mem_of_getElem? (i := 152) (by decide +kernel), List.mem_of_getElem? (i := 723) (by decide +kernel), List.mem_of_getElem? (i := 724) (by decide +kernel)⟩
def lw_privs_2 : List (MethodName × Nat) := [(⟨"RouteStrides", "beginAct", "()V"⟩, 17), (⟨"RouteStrides", "dropOldestAct", "()V"⟩, 17), (⟨"RouteStrides$Table", "turnStrides", "()V"⟩, 8), (⟨"RouteStrides", "seeFewest", "()V"⟩, 17), (⟨"RouteStrides", "seeSpans", "()V"⟩, 17), (⟨"RouteStrides$Spans", "closeAhead", "(JLRouteStrides$Table;)V"⟩, 10), (⟨"RouteStrides$Spans", "innermost", "()I"⟩, 10), (⟨"RouteStrides$Spans", "emit", "(IJLRouteStrides$Table;)V"⟩, 10), (⟨"RouteStrides$Fewest", "part", "(LRouteStrides$Spans;JII)I"⟩, 7), (⟨"RouteStrides$Fewest", "hand", "(IJII)V"⟩, 7), (⟨"RouteStrides$Fewest", "append", "(JII)V"⟩, 7), (⟨"RouteStrides", "isKept", "(I)Z"⟩, 17), (⟨"RouteStrides", "lookAtRules", "(II)I"⟩, 17), (⟨"RouteStrides", "seeNodes", "()V"⟩, 17), (⟨"RouteStrides$Nodes", "append", "(JIII)V"⟩, 18), (⟨"RouteStrides$Nodes", "fill", "(IILRouteStrides$Spans;)V"⟩, 18)]
theorem lw_r2 : ∀ q ∈ lw_privs_2, lw_okq q := List.forall_mem_cons.mpr ⟨lw_p16, List.forall_mem_cons.mpr ⟨lw_p17, List.forall_mem_cons.mpr ⟨lw_p18, List.forall_mem_cons.mpr ⟨lw_p19, List.forall_mem_cons.mpr ⟨lw_p20, List.forall_mem_cons.mpr ⟨lw_p21, List.forall_mem_cons.mpr ⟨lw_p22, List.forall_mem_cons.mpr ⟨lw_p23, List.forall_mem_cons.mpr ⟨lw_p24, List.forall_mem_cons.mpr ⟨lw_p25, List.forall_mem_cons.mpr ⟨lw_p26, List.forall_mem_cons.mpr ⟨lw_p27, List.forall_mem_cons.mpr ⟨lw_p28, List.forall_mem_cons.mpr ⟨lw_p29, List.forall_mem_cons.mpr ⟨lw_p30, List.forall_mem_cons.mpr ⟨lw_p31, fun _ h => absurd h List.not_mem_nil⟩⟩⟩⟩⟩⟩⟩⟩⟩⟩⟩⟩⟩⟩⟩⟩
theorem lw_p32 : lw_okq (⟨"RouteStrides$Nodes", "store", "(II)V"⟩, 18) := ⟨⟨by decide +kernel, by decide +kernel⟩, List.mem_of_getElem? (i := 152) (by decide +kernel), List.mem_of_getElem? (i := 728) (by decide +kernel), List.mem_of_getElem? (i := 729) (by decide +kernel)⟩
theorem lw_p33 : lw_okq (⟨"RouteStrides$Nodes", "slotOf", "(JI)I"⟩, 18) := ⟨⟨by decide +kernel, by decide +kernel⟩, List.mem_of_getElem? (i := 152) (by decide +kernel), List.mem_of_getElem? (i := 743) (by decide +kernel), List.mem_of_getElem? (i := 744) (by decide +kernel)⟩
theorem lw_p34 : lw_okq (⟨"RouteStrides$Nodes", "placeAt", "(II)I"⟩, 18) := ⟨⟨by decide +kernel, by decide +kernel⟩, List.mem_of_getElem? (i := 152) (by decide +kernel), List.mem_of_getElem? (i := 760) (by decide +kernel), List.mem_of_getElem? (i := 761) (by decide +kernel)⟩
theorem lw_p35 : lw_okq (⟨"RouteStrides", "touchedAgainst", "(LRouteStrides$Table;)I"⟩, 17) := ⟨⟨by decide +kernel, by decide +kernel⟩, List.mem_of_getElem? (i := 19) (by decide +kernel), List.mem_of_getElem? (i := 773) (by decide +kernel), List.mem_of_getElem? (i := 774) (by decide +kernel)⟩
theorem lw_p36 : lw_okq (⟨"RouteStrides$Nodes", "orderOf", "(ILRouteStrides$Nodes;I)J"⟩, 18) := ⟨⟨by decide +kernel, by decide +kernel⟩, List.mem_of_getElem? (i := 152) (by decide +kernel), List.mem_of_getElem? (i := 781) (by decide +kernel), List.mem_of_getElem? (i := 782) (by decide +kernel)⟩
theorem lw_p37 : lw_okq (⟨"RouteStrides", "seeKinds", "()V"⟩, 17) := ⟨⟨by decide +kernel, by decide +kernel⟩, List.mem_of_getElem? (i := 19) (by decide +kernel), List.mem_of_getElem? (i := 861) (by decide +kernel), List.mem_of_getElem? (i := 862) (by decide +kernel)⟩
theorem lw_p38 : lw_okq (⟨"RouteStrides$Kinds", "kindOf", "(LRouteStrides$Nodes;I)I"⟩, 3) := ⟨⟨by decide +kernel, by decide +kernel⟩, List.mem_of_getElem? (i := 223) (by decide +kernel), List.mem_of_getElem? (i := 877) (by decide +kernel), List.mem_of_getElem? (i := 878) (by decide +kernel)⟩
theorem lw_p39 : lw_okq (⟨"RouteStrides$Kinds", "rowOf", "(LRouteStrides$Nodes;I)I"⟩, 3) := ⟨⟨by decide +kernel, by decide +kernel⟩, List.mem_of_getElem? (i := 223) (by decide +kernel), List.mem_of_getElem? (i := 881) (by decide +kernel), List.mem_of_getElem? (i := 882) (by decide +kernel)⟩
theorem lw_p40 : lw_okq (⟨"RouteStrides$Kinds", "kindOfChild", "(LRouteStrides$Nodes;II)I"⟩, 3) := ⟨⟨by decide +kernel, by decide +kernel⟩, List.mem_of_getElem? (i := 223) (by decide +kernel), List.mem_of_getElem? (i := 889) (by decide +kernel), List.mem_of_getElem? (i := 890) (by decide +kernel)⟩
theorem lw_p41 : lw_okq (⟨"RouteStrides$Kinds", "leadToLike", "(LRouteStrides$Nodes;II)Z"⟩, 3) := ⟨⟨by decide +kernel, by decide +kernel⟩, List.mem_of_getElem? (i := 223) (by decide +kernel), List.mem_of_getElem? (i := 895) (by decide +kernel), List.mem_of_getElem? (i := 896) (by decide +kernel)⟩
theorem lw_p42 : lw_okq (⟨"RouteStrides", "seeCosts", "()V"⟩, 17) := ⟨⟨by decide +kernel, by decide +kernel⟩, List.mem_of_getElem? (i := 19) (by decide +kernel), List.mem_of_getElem? (i := 934) (by decide +kernel), List.mem_of_getElem? (i := 935) (by decide +kernel)⟩
theorem lw_p43 : lw_okq (⟨"RouteStrides$Costs", "fewestSlots", "(II)J"⟩, 2) := ⟨⟨by decide +kernel, by decide +kernel⟩, List.mem_of_getElem? (i := 276) (by decide +kernel), List.mem_of_getElem? (i := 948) (by decide +kernel), List.mem_of_getElem? (i := 949) (by decide +kernel)⟩
theorem lw_p44 : lw_okq (⟨"RouteStrides$Costs", "slotsWith", "(III)J"⟩, 2) := ⟨⟨by decide +kernel, by decide +kernel⟩, List.mem_of_getElem? (i := 276) (by decide +kernel), List.mem_of_getElem? (i := 952) (by decide +kernel), List.mem_of_getElem? (i := 953) (by decide +kernel)⟩
theorem lw_p45 : lw_okq (⟨"RouteStrides", "touchedByLastAct", "()I"⟩, 17) := ⟨⟨by decide +kernel, by decide +kernel⟩, List.mem_of_getElem? (i := 19) (by decide +kernel), List.mem_of_getElem? (i := 1002) (by decide +kernel), List.mem_of_getElem? (i := 1003) (by decide +kernel)⟩
theorem lw_p46 : lw_okq (⟨"RouteStridesModel", "startsAnew", "()V"⟩, 52) := ⟨⟨by decide +kernel, by decide +kernel⟩, List.mem_of_getElem? (i := 1010) (by decide +kernel), List.mem_of_getElem? (i := 1017) (by decide +kernel), List.mem_of_getElem? (i := 1018) (by decide +kernel)⟩
theorem lw_p47 : lw_okq (⟨"RouteStridesModel", "laysTable", "(I[II)V"⟩, 52) := ⟨⟨by decide +kernel, by decide +kernel⟩, List.mem_of_getElem? (i := 1010) (by decide +kernel), List.mem_of_getElem? (i := 1021) (by decide +kernel), List.mem_of_getElem? (i := 1022) (by decide +kernel)⟩
def lw_privs_3 : List (MethodName × Nat) := [(⟨"RouteStrides$Nodes", "store", "(II)V"⟩, 18), (⟨"RouteStrides$Nodes", "slotOf", "(JI)I"⟩, 18), (⟨"RouteStrides$Nodes", "placeAt", "(II)I"⟩, 18), (⟨"RouteStrides", "touchedAgainst", "(LRouteStrides$Table;)I"⟩, 17), (⟨"RouteStrides$Nodes", "orderOf", "(ILRouteStrides$Nodes;I)J"⟩, 18), (⟨"RouteStrides", "seeKinds", "()V"⟩, 17), (⟨"RouteStrides$Kinds", "kindOf", "(LRouteStrides$Nodes;I)I"⟩, 3), (⟨"RouteStrides$Kinds", "rowOf", "(LRouteStrides$Nodes;I)I"⟩, 3), (⟨"RouteStrides$Kinds", "kindOfChild", "(LRouteStrides$Nodes;II)I"⟩, 3), (⟨"RouteStrides$Kinds", "leadToLike", "(LRouteStrides$Nodes;II)Z"⟩, 3), (⟨"RouteStrides", "seeCosts", "()V"⟩, 17), (⟨"RouteStrides$Costs", "fewestSlots", "(II)J"⟩, 2), (⟨"RouteStrides$Costs", "slotsWith", "(III)J"⟩, 2), (⟨"RouteStrides", "touchedByLastAct", "()I"⟩, 17), (⟨"RouteStridesModel", "startsAnew", "()V"⟩, 52), (⟨"RouteStridesModel", "laysTable", "(I[II)V"⟩, 52)]
theorem lw_r3 : ∀ q ∈ lw_privs_3, lw_okq q := List.forall_mem_cons.mpr ⟨lw_p32, List.forall_mem_cons.mpr ⟨lw_p33, List.forall_mem_cons.mpr ⟨lw_p34, List.forall_mem_cons.mpr ⟨lw_p35, List.forall_mem_cons.mpr ⟨lw_p36, List.forall_mem_cons.mpr ⟨lw_p37, List.forall_mem_cons.mpr ⟨lw_p38, List.forall_mem_cons.mpr ⟨lw_p39, List.forall_mem_cons.mpr ⟨lw_p40, List.forall_mem_cons.mpr ⟨lw_p41, List.forall_mem_cons.mpr ⟨lw_p42, List.forall_mem_cons.mpr ⟨lw_p43, List.forall_mem_cons.mpr ⟨lw_p44, List.forall_mem_cons.mpr ⟨lw_p45, List.forall_mem_cons.mpr ⟨lw_p46, List.forall_mem_cons.mpr ⟨lw_p47, fun _ h => absurd h List.not_mem_nil⟩⟩⟩⟩⟩⟩⟩⟩⟩⟩⟩⟩⟩⟩⟩⟩
theorem lw_p48 : lw_okq (⟨"RouteStridesModel", "laysPlaces", "([II)V"⟩, 52) := ⟨⟨by decide +kernel, by decide +kernel⟩, List.mem_of_getElem? (i := 1010) (by decide +kernel), List.mem_of_getElem? (i := 1025) (by decide +kernel), List.mem_of_getElem? (i := 1026) (by decide +kernel)⟩
theorem lw_p49 : lw_okq (⟨"RouteStridesModel", "addsPlace", "(J)V"⟩, 52) := ⟨⟨by decide +kernel, by decide +kernel⟩, List.mem_of_getElem? (i := 1010) (by decide +kernel), List.mem_of_getElem? (i := 1029) (by decide +kernel), List.mem_of_getElem? (i := 1030) (by decide +kernel)⟩
theorem lw_p50 : lw_okq (⟨"RouteStridesModel", "laysNodes", "()V"⟩, 52) := ⟨⟨by decide +kernel, by decide +kernel⟩, List.mem_of_getElem? (i := 1010) (by decide +kernel), List.mem_of_getElem? (i := 1056) (by decide +kernel), List.mem_of_getElem? (i := 1057) (by decide +kernel)⟩
theorem lw_p51 : lw_okq (⟨"RouteStridesModel", "addsNode", "(IJ)V"⟩, 52) := ⟨⟨by decide +kernel, by decide +kernel⟩, List.mem_of_getElem? (i := 1010) (by decide +kernel), List.mem_of_getElem? (i := 1060) (by decide +kernel), List.mem_of_getElem? (i := 1061) (by decide +kernel)⟩
theorem lw_p52 : lw_okq (⟨"RouteStridesModel", "lengthAt", "(II)I"⟩, 52) := ⟨⟨by decide +kernel, by decide +kernel⟩, List.mem_of_getElem? (i := 1010) (by decide +kernel), List.mem_of_getElem? (i := 1064) (by decide +kernel), List.mem_of_getElem? (i := 1065) (by decide +kernel)⟩
theorem lw_p53 : lw_okq (⟨"RouteStridesModel", "isLaidAnew", "()V"⟩, 52) := ⟨⟨by decide +kernel, by decide +kernel⟩, List.mem_of_getElem? (i := 1010) (by decide +kernel), List.mem_of_getElem? (i := 1230) (by decide +kernel), List.mem_of_getElem? (i := 1231) (by decide +kernel)⟩
theorem lw_p54 : lw_okq (⟨"RouteStridesModel", "hasIt", "(JII)Z"⟩, 52) := ⟨⟨by decide +kernel, by decide +kernel⟩, List.mem_of_getElem? (i := 1010) (by decide +kernel), List.mem_of_getElem? (i := 1258) (by decide +kernel), List.mem_of_getElem? (i := 1259) (by decide +kernel)⟩
theorem lw_p55 : lw_okq (⟨"RouteStridesModel", "find", "(JI)I"⟩, 52) := ⟨⟨by decide +kernel, by decide +kernel⟩, List.mem_of_getElem? (i := 1010) (by decide +kernel), List.mem_of_getElem? (i := 1262) (by decide +kernel), List.mem_of_getElem? (i := 1263) (by decide +kernel)⟩
theorem lw_p56 : lw_okq (⟨"RouteStridesModel", "valueOf", "(I)J"⟩, 52) := ⟨⟨by decide +kernel, by decide +kernel⟩, List.mem_of_getElem? (i := 1010) (by decide +kernel), List.mem_of_getElem? (i := 1266) (by decide +kernel), List.mem_of_getElem? (i := 1267) (by decide +kernel)⟩
theorem lw_p57 : lw_okq (⟨"RouteStridesModel", "keepsAct", "()V"⟩, 52) := ⟨⟨by decide +kernel, by decide +kernel⟩, List.mem_of_getElem? (i := 1010) (by decide +kernel), List.mem_of_getElem? (i := 1270) (by decide +kernel), List.mem_of_getElem? (i := 1271) (by decide +kernel)⟩
theorem lw_p58 : lw_okq (⟨"RouteStridesModel", "puts", "(JII)I"⟩, 52) := ⟨⟨by decide +kernel, by decide +kernel⟩, List.mem_of_getElem? (i := 1010) (by decide +kernel), List.mem_of_getElem? (i := 1274) (by decide +kernel), List.mem_of_getElem? (i := 1275) (by decide +kernel)⟩
theorem lw_p59 : lw_okq (⟨"RouteStridesModel", "isAhead", "(IJI)Z"⟩, 52) := ⟨⟨by decide +kernel, by decide +kernel⟩, List.mem_of_getElem? (i := 1010) (by decide +kernel), List.mem_of_getElem? (i := 1278) (by decide +kernel), List.mem_of_getElem? (i := 1279) (by decide +kernel)⟩
theorem lw_p60 : lw_okq (⟨"RouteStridesModel", "copies", "(II)V"⟩, 52) := ⟨⟨by decide +kernel, by decide +kernel⟩, List.mem_of_getElem? (i := 1010) (by decide +kernel), List.mem_of_getElem? (i := 1282) (by decide +kernel), List.mem_of_getElem? (i := 1283) (by decide +kernel)⟩
theorem lw_p61 : lw_okq (⟨"RouteStridesModel", "frees", "(I)V"⟩, 52) := ⟨⟨by decide +kernel, by decide +kernel⟩, List.mem_of_getElem? (i := 1010) (by decide +kernel), List.mem_of_getElem? (i := 1286) (by decide +kernel), List.mem_of_getElem? (i := 1287) (by decide +kernel)⟩
theorem lw_p62 : lw_okq (⟨"RouteStridesModel", "rulesOf", "(I)I"⟩, 52) := ⟨⟨by decide +kernel, by decide +kernel⟩, List.mem_of_getElem? (i := 1010) (by decide +kernel), List.mem_of_getElem? (i := 1290) (by decide +kernel), List.mem_of_getElem? (i := 1291) (by decide +kernel)⟩
theorem lw_p63 : lw_okq (⟨"RouteStridesModel", "hopFor", "(I)I"⟩, 52) := ⟨⟨by decide +kernel, by decide +kernel⟩, List.mem_of_getElem? (i := 1010) (by decide +kernel), List.mem_of_getElem? (i := 1294) (by decide +kernel), List.mem_of_getElem? (i := 1295) (by decide +kernel)⟩
def lw_privs_4 : List (MethodName × Nat) := [(⟨"RouteStridesModel", "laysPlaces", "([II)V"⟩, 52), (⟨"RouteStridesModel", "addsPlace", "(J)V"⟩, 52), (⟨"RouteStridesModel", "laysNodes", "()V"⟩, 52), (⟨"RouteStridesModel", "addsNode", "(IJ)V"⟩, 52), (⟨"RouteStridesModel", "lengthAt", "(II)I"⟩, 52), (⟨"RouteStridesModel", "isLaidAnew", "()V"⟩, 52), (⟨"RouteStridesModel", "hasIt", "(JII)Z"⟩, 52), (⟨"RouteStridesModel", "find", "(JI)I"⟩, 52), (⟨"RouteStridesModel", "valueOf", "(I)J"⟩, 52), (⟨"RouteStridesModel", "keepsAct", "()V"⟩, 52), (⟨"RouteStridesModel", "puts", "(JII)I"⟩, 52), (⟨"RouteStridesModel", "isAhead", "(IJI)Z"⟩, 52), (⟨"RouteStridesModel", "copies", "(II)V"⟩, 52), (⟨"RouteStridesModel", "frees", "(I)V"⟩, 52), (⟨"RouteStridesModel", "rulesOf", "(I)I"⟩, 52), (⟨"RouteStridesModel", "hopFor", "(I)I"⟩, 52)]
theorem lw_r4 : ∀ q ∈ lw_privs_4, lw_okq q := List.forall_mem_cons.mpr ⟨lw_p48, List.forall_mem_cons.mpr ⟨lw_p49, List.forall_mem_cons.mpr ⟨lw_p50, List.forall_mem_cons.mpr ⟨lw_p51, List.forall_mem_cons.mpr ⟨lw_p52, List.forall_mem_cons.mpr ⟨lw_p53, List.forall_mem_cons.mpr ⟨lw_p54, List.forall_mem_cons.mpr ⟨lw_p55, List.forall_mem_cons.mpr ⟨lw_p56, List.forall_mem_cons.mpr ⟨lw_p57, List.forall_mem_cons.mpr ⟨lw_p58, List.forall_mem_cons.mpr ⟨lw_p59, List.forall_mem_cons.mpr ⟨lw_p60, List.forall_mem_cons.mpr ⟨lw_p61, List.forall_mem_cons.mpr ⟨lw_p62, List.forall_mem_cons.mpr ⟨lw_p63, fun _ h => absurd h List.not_mem_nil⟩⟩⟩⟩⟩⟩⟩⟩⟩⟩⟩⟩⟩⟩⟩⟩
theorem lw_p64 : lw_okq (⟨"RouteStridesModel", "hopOf", "(I)I"⟩, 52) := ⟨⟨by decide +kernel, by decide +kernel⟩, List.mem_of_getElem? (i := 1010) (by decide +kernel), List.mem_of_getElem? (i := 1298) (by decide +kernel), List.mem_of_getElem? (i := 1299) (by decide +kernel)⟩
theorem lw_p65 : lw_okq (⟨"RouteStridesModel", "isDone", "()V"⟩, 52) := ⟨⟨by decide +kernel, by decide +kernel⟩, List.mem_of_getElem? (i := 1010) (by decide +kernel), List.mem_of_getElem? (i := 1302) (by decide +kernel), List.mem_of_getElem? (i := 1303) (by decide +kernel)⟩
theorem lw_p66 : lw_okq (⟨"RouteStridesModel", "othersNow", "()I"⟩, 52) := ⟨⟨by decide +kernel, by decide +kernel⟩, List.mem_of_getElem? (i := 1010) (by decide +kernel), List.mem_of_getElem? (i := 1306) (by decide +kernel), List.mem_of_getElem? (i := 1307) (by decide +kernel)⟩
theorem lw_p67 : lw_okq (⟨"RouteStridesModel", "hasNode", "(IIJ)Z"⟩, 52) := ⟨⟨by decide +kernel, by decide +kernel⟩, List.mem_of_getElem? (i := 1010) (by decide +kernel), List.mem_of_getElem? (i := 1310) (by decide +kernel), List.mem_of_getElem? (i := 1311) (by decide +kernel)⟩
theorem lw_p68 : lw_okq (⟨"RouteStridesModel", "isOne", "(IJJ)Z"⟩, 52) := ⟨⟨by decide +kernel, by decide +kernel⟩, List.mem_of_getElem? (i := 1010) (by decide +kernel), List.mem_of_getElem? (i := 1314) (by decide +kernel), List.mem_of_getElem? (i := 1315) (by decide +kernel)⟩
theorem lw_p69 : lw_okq (⟨"RouteStridesModel", "rowAt", "(IJ)I"⟩, 52) := ⟨⟨by decide +kernel, by decide +kernel⟩, List.mem_of_getElem? (i := 1010) (by decide +kernel), List.mem_of_getElem? (i := 1318) (by decide +kernel), List.mem_of_getElem? (i := 1319) (by decide +kernel)⟩
theorem lw_p70 : lw_okq (⟨"RouteStridesModel", "behindRow", "(II)J"⟩, 52) := ⟨⟨by decide +kernel, by decide +kernel⟩, List.mem_of_getElem? (i := 1010) (by decide +kernel), List.mem_of_getElem? (i := 1322) (by decide +kernel), List.mem_of_getElem? (i := 1323) (by decide +kernel)⟩
theorem lw_p71 : lw_okq (⟨"RouteStridesModel", "isUnlike", "(IJ)Z"⟩, 52) := ⟨⟨by decide +kernel, by decide +kernel⟩, List.mem_of_getElem? (i := 1010) (by decide +kernel), List.mem_of_getElem? (i := 1326) (by decide +kernel), List.mem_of_getElem? (i := 1327) (by decide +kernel)⟩
theorem lw_p72 : lw_okq (⟨"RouteStridesModel", "reads", "(IIJ)V"⟩, 52) := ⟨⟨by decide +kernel, by decide +kernel⟩, List.mem_of_getElem? (i := 1010) (by decide +kernel), List.mem_of_getElem? (i := 1330) (by decide +kernel), List.mem_of_getElem? (i := 1331) (by decide +kernel)⟩
theorem lw_p73 : lw_okq (⟨"RouteStridesModel", "slotSize", "(II)J"⟩, 52) := ⟨⟨by decide +kernel, by decide +kernel⟩, List.mem_of_getElem? (i := 1010) (by decide +kernel), List.mem_of_getElem? (i := 1334) (by decide +kernel), List.mem_of_getElem? (i := 1335) (by decide +kernel)⟩
theorem lw_p74 : lw_okq (⟨"RouteStridesModel", "slotsAt", "(II)I"⟩, 52) := ⟨⟨by decide +kernel, by decide +kernel⟩, List.mem_of_getElem? (i := 1010) (by decide +kernel), List.mem_of_getElem? (i := 1338) (by decide +kernel), List.mem_of_getElem? (i := 1339) (by decide +kernel)⟩
theorem lw_p75 : lw_okq (⟨"RouteStridesModel", "codeAt", "(IJ)I"⟩, 52) := ⟨⟨by decide +kernel, by decide +kernel⟩, List.mem_of_getElem? (i := 1010) (by decide +kernel), List.mem_of_getElem? (i := 1342) (by decide +kernel), List.mem_of_getElem? (i := 1343) (by decide +kernel)⟩
theorem lw_p76 : lw_okq (⟨"RouteStridesModel", "goneNow", "()I"⟩, 52) := ⟨⟨by decide +kernel, by decide +kernel⟩, List.mem_of_getElem? (i := 1010) (by decide +kernel), List.mem_of_getElem? (i := 1346) (by decide +kernel), List.mem_of_getElem? (i := 1347) (by decide +kernel)⟩
theorem lw_p77 : lw_okq (⟨"RouteStridesModel", "drops", "(I)V"⟩, 52) := ⟨⟨by decide +kernel, by decide +kernel⟩, List.mem_of_getElem? (i := 1010) (by decide +kernel), List.mem_of_getElem? (i := 1355) (by decide +kernel), List.mem_of_getElem? (i := 1356) (by decide +kernel)⟩
theorem lw_p78 : lw_okq (⟨"RouteStridesModel", "covers", "(II)Z"⟩, 52) := ⟨⟨by decide +kernel, by decide +kernel⟩, List.mem_of_getElem? (i := 1010) (by decide +kernel), List.mem_of_getElem? (i := 1367) (by decide +kernel), List.mem_of_getElem? (i := 1368) (by decide +kernel)⟩
theorem lw_p79 : lw_okq (⟨"RouteStridesModel", "readsDigits", "(J)Z"⟩, 52) := ⟨⟨by decide +kernel, by decide +kernel⟩, List.mem_of_getElem? (i := 1010) (by decide +kernel), List.mem_of_getElem? (i := 1380) (by decide +kernel), List.mem_of_getElem? (i := 1381) (by decide +kernel)⟩
def lw_privs_5 : List (MethodName × Nat) := [(⟨"RouteStridesModel", "hopOf", "(I)I"⟩, 52), (⟨"RouteStridesModel", "isDone", "()V"⟩, 52), (⟨"RouteStridesModel", "othersNow", "()I"⟩, 52), (⟨"RouteStridesModel", "hasNode", "(IIJ)Z"⟩, 52), (⟨"RouteStridesModel", "isOne", "(IJJ)Z"⟩, 52), (⟨"RouteStridesModel", "rowAt", "(IJ)I"⟩, 52), (⟨"RouteStridesModel", "behindRow", "(II)J"⟩, 52), (⟨"RouteStridesModel", "isUnlike", "(IJ)Z"⟩, 52), (⟨"RouteStridesModel", "reads", "(IIJ)V"⟩, 52), (⟨"RouteStridesModel", "slotSize", "(II)J"⟩, 52), (⟨"RouteStridesModel", "slotsAt", "(II)I"⟩, 52), (⟨"RouteStridesModel", "codeAt", "(IJ)I"⟩, 52), (⟨"RouteStridesModel", "goneNow", "()I"⟩, 52), (⟨"RouteStridesModel", "drops", "(I)V"⟩, 52), (⟨"RouteStridesModel", "covers", "(II)Z"⟩, 52), (⟨"RouteStridesModel", "readsDigits", "(J)Z"⟩, 52)]
theorem lw_r5 : ∀ q ∈ lw_privs_5, lw_okq q := List.forall_mem_cons.mpr ⟨lw_p64, List.forall_mem_cons.mpr ⟨lw_p65, List.forall_mem_cons.mpr ⟨lw_p66, List.forall_mem_cons.mpr ⟨lw_p67, List.forall_mem_cons.mpr ⟨lw_p68, List.forall_mem_cons.mpr ⟨lw_p69, List.forall_mem_cons.mpr ⟨lw_p70, List.forall_mem_cons.mpr ⟨lw_p71, List.forall_mem_cons.mpr ⟨lw_p72, List.forall_mem_cons.mpr ⟨lw_p73, List.forall_mem_cons.mpr ⟨lw_p74, List.forall_mem_cons.mpr ⟨lw_p75, List.forall_mem_cons.mpr ⟨lw_p76, List.forall_mem_cons.mpr ⟨lw_p77, List.forall_mem_cons.mpr ⟨lw_p78, List.forall_mem_cons.mpr ⟨lw_p79, fun _ h => absurd h List.not_mem_nil⟩⟩⟩⟩⟩⟩⟩⟩⟩⟩⟩⟩⟩⟩⟩⟩
theorem lw_p80 : lw_okq (⟨"RouteStridesModel", "addsStride", "(I)Z"⟩, 52) := ⟨⟨by decide +kernel, by decide +kernel⟩, List.mem_of_getElem? (i := 1010) (by decide +kernel), List.mem_of_getElem? (i := 1385) (by decide +kernel), List.mem_of_getElem? (i := 1386) (by decide +kernel)⟩
theorem lw_p81 : lw_okq (⟨"RouteStridesModel", "strideSum", "()I"⟩, 52) := ⟨⟨by decide +kernel, by decide +kernel⟩, List.mem_of_getElem? (i := 1010) (by decide +kernel), List.mem_of_getElem? (i := 1391) (by decide +kernel), List.mem_of_getElem? (i := 1392) (by decide +kernel)⟩
theorem lw_p82 : lw_okq (⟨"RouteStridesModel", "areStrides", "()Z"⟩, 52) := ⟨⟨by decide +kernel, by decide +kernel⟩, List.mem_of_getElem? (i := 1010) (by decide +kernel), List.mem_of_getElem? (i := 1395) (by decide +kernel), List.mem_of_getElem? (i := 1396) (by decide +kernel)⟩
theorem lw_p83 : lw_okq (⟨"RouteStridesModel", "takesStrides", "()V"⟩, 52) := ⟨⟨by decide +kernel, by decide +kernel⟩, List.mem_of_getElem? (i := 1010) (by decide +kernel), List.mem_of_getElem? (i := 1399) (by decide +kernel), List.mem_of_getElem? (i := 1400) (by decide +kernel)⟩
theorem lw_p84 : lw_okq (⟨"RouteStridesModel", "readsText", "()Z"⟩, 52) := ⟨⟨by decide +kernel, by decide +kernel⟩, List.mem_of_getElem? (i := 1010) (by decide +kernel), List.mem_of_getElem? (i := 1415) (by decide +kernel), List.mem_of_getElem? (i := 1416) (by decide +kernel)⟩
theorem lw_p85 : lw_okq (⟨"RouteStridesModel", "isStridesWord", "()Z"⟩, 52) := ⟨⟨by decide +kernel, by decide +kernel⟩, List.mem_of_getElem? (i := 1010) (by decide +kernel), List.mem_of_getElem? (i := 1419) (by decide +kernel), List.mem_of_getElem? (i := 1420) (by decide +kernel)⟩
theorem lw_p86 : lw_okq (⟨"RouteStridesModel", "next", "()I"⟩, 52) := ⟨⟨by decide +kernel, by decide +kernel⟩, List.mem_of_getElem? (i := 1010) (by decide +kernel), List.mem_of_getElem? (i := 1424) (by decide +kernel), List.mem_of_getElem? (i := 1425) (by decide +kernel)⟩
theorem lw_p87 : lw_okq (⟨"RouteStridesModel", "byteAt", "(I)I"⟩, 52) := ⟨⟨by decide +kernel, by decide +kernel⟩, List.mem_of_getElem? (i := 1010) (by decide +kernel), List.mem_of_getElem? (i := 1428) (by decide +kernel), List.mem_of_getElem? (i := 1429) (by decide +kernel)⟩
theorem lw_p88 : lw_okq (⟨"RouteStridesModel", "readsStrides", "()Z"⟩, 52) := ⟨⟨by decide +kernel, by decide +kernel⟩, List.mem_of_getElem? (i := 1010) (by decide +kernel), List.mem_of_getElem? (i := 1436) (by decide +kernel), List.mem_of_getElem? (i := 1437) (by decide +kernel)⟩
theorem lw_p89 : lw_okq (⟨"RouteStridesModel", "readsNumber", "(II)Z"⟩, 52) := ⟨⟨by decide +kernel, by decide +kernel⟩, List.mem_of_getElem? (i := 1010) (by decide +kernel), List.mem_of_getElem? (i := 1440) (by decide +kernel), List.mem_of_getElem? (i := 1441) (by decide +kernel)⟩
theorem lw_p90 : lw_okq (⟨"RouteStridesModel", "isDigitNext", "()Z"⟩, 52) := ⟨⟨by decide +kernel, by decide +kernel⟩, List.mem_of_getElem? (i := 1010) (by decide +kernel), List.mem_of_getElem? (i := 1444) (by decide +kernel), List.mem_of_getElem? (i := 1445) (by decide +kernel)⟩
theorem lw_p91 : lw_okq (⟨"RouteStridesModel", "fails", "(II)Z"⟩, 52) := ⟨⟨by decide +kernel, by decide +kernel⟩, List.mem_of_getElem? (i := 1010) (by decide +kernel), List.mem_of_getElem? (i := 1450) (by decide +kernel), List.mem_of_getElem? (i := 1451) (by decide +kernel)⟩
theorem lw_p92 : lw_okq (⟨"RouteStridesModel", "readsRule", "()Z"⟩, 52) := ⟨⟨by decide +kernel, by decide +kernel⟩, List.mem_of_getElem? (i := 1010) (by decide +kernel), List.mem_of_getElem? (i := 1454) (by decide +kernel), List.mem_of_getElem? (i := 1455) (by decide +kernel)⟩
theorem lw_p93 : lw_okq (⟨"RouteStridesModel", "readsSign", "(C)Z"⟩, 52) := ⟨⟨by decide +kernel, by decide +kernel⟩, List.mem_of_getElem? (i := 1010) (by decide +kernel), List.mem_of_getElem? (i := 1458) (by decide +kernel), List.mem_of_getElem? (i := 1459) (by decide +kernel)⟩
theorem lw_p94 : lw_okq (⟨"RouteStridesModel", "hopAt", "(J)I"⟩, 52) := ⟨⟨by decide +kernel, by decide +kernel⟩, List.mem_of_getElem? (i := 1010) (by decide +kernel), List.mem_of_getElem? (i := 1467) (by decide +kernel), List.mem_of_getElem? (i := 1468) (by decide +kernel)⟩
theorem lw_p95 : lw_okq (⟨"RouteStridesModel", "through", "(J)I"⟩, 52) := ⟨⟨by decide +kernel, by decide +kernel⟩, List.mem_of_getElem? (i := 1010) (by decide +kernel), List.mem_of_getElem? (i := 1471) (by decide +kernel), List.mem_of_getElem? (i := 1472) (by decide +kernel)⟩
def lw_privs_6 : List (MethodName × Nat) := [(⟨"RouteStridesModel", "addsStride", "(I)Z"⟩, 52), (⟨"RouteStridesModel", "strideSum", "()I"⟩, 52), (⟨"RouteStridesModel", "areStrides", "()Z"⟩, 52), (⟨"RouteStridesModel", "takesStrides", "()V"⟩, 52), (⟨"RouteStridesModel", "readsText", "()Z"⟩, 52), (⟨"RouteStridesModel", "isStridesWord", "()Z"⟩, 52), (⟨"RouteStridesModel", "next", "()I"⟩, 52), (⟨"RouteStridesModel", "byteAt", "(I)I"⟩, 52), (⟨"RouteStridesModel", "readsStrides", "()Z"⟩, 52), (⟨"RouteStridesModel", "readsNumber", "(II)Z"⟩, 52), (⟨"RouteStridesModel", "isDigitNext", "()Z"⟩, 52), (⟨"RouteStridesModel", "fails", "(II)Z"⟩, 52), (⟨"RouteStridesModel", "readsRule", "()Z"⟩, 52), (⟨"RouteStridesModel", "readsSign", "(C)Z"⟩, 52), (⟨"RouteStridesModel", "hopAt", "(J)I"⟩, 52), (⟨"RouteStridesModel", "through", "(J)I"⟩, 52)]
theorem lw_r6 : ∀ q ∈ lw_privs_6, lw_okq q := List.forall_mem_cons.mpr ⟨lw_p80, List.forall_mem_cons.mpr ⟨lw_p81, List.forall_mem_cons.mpr ⟨lw_p82, List.forall_mem_cons.mpr ⟨lw_p83, List.forall_mem_cons.mpr ⟨lw_p84, List.forall_mem_cons.mpr ⟨lw_p85, List.forall_mem_cons.mpr ⟨lw_p86, List.forall_mem_cons.mpr ⟨lw_p87, List.forall_mem_cons.mpr ⟨lw_p88, List.forall_mem_cons.mpr ⟨lw_p89, List.forall_mem_cons.mpr ⟨lw_p90, List.forall_mem_cons.mpr ⟨lw_p91, List.forall_mem_cons.mpr ⟨lw_p92, List.forall_mem_cons.mpr ⟨lw_p93, List.forall_mem_cons.mpr ⟨lw_p94, List.forall_mem_cons.mpr ⟨lw_p95, fun _ h => absurd h List.not_mem_nil⟩⟩⟩⟩⟩⟩⟩⟩⟩⟩⟩⟩⟩⟩⟩⟩
theorem lw_p96 : lw_okq (⟨"RouteStridesModel", "hasChild", "(IJ)Z"⟩, 52) := ⟨⟨by decide +kernel, by decide +kernel⟩, List.mem_of_getElem? (i := 1010) (by decide +kernel), List.mem_of_getElem? (i := 1475) (by decide +kernel), List.mem_of_getElem? (i := 1476) (by decide +kernel)⟩
theorem lw_p97 : lw_okq (⟨"RouteStridesModel", "storedPlace", "(J)I"⟩, 52) := ⟨⟨by decide +kernel, by decide +kernel⟩, List.mem_of_getElem? (i := 1010) (by decide +kernel), List.mem_of_getElem? (i := 1479) (by decide +kernel), List.mem_of_getElem? (i := 1480) (by decide +kernel)⟩
theorem lw_p98 : lw_okq (⟨"RouteStridesModel", "hopWithout", "(J)I"⟩, 52) := ⟨⟨by decide +kernel, by decide +kernel⟩, List.mem_of_getElem? (i := 1010) (by decide +kernel), List.mem_of_getElem? (i := 1483) (by decide +kernel), List.mem_of_getElem? (i := 1484) (by decide +kernel)⟩
theorem lw_p99 : lw_okq (⟨"RouteStridesModel", "nodeAt", "(IJ)I"⟩, 52) := ⟨⟨by decide +kernel, by decide +kernel⟩, List.mem_of_getElem? (i := 1010) (by decide +kernel), List.mem_of_getElem? (i := 1491) (by decide +kernel), List.mem_of_getElem? (i := 1492) (by decide +kernel)⟩
theorem lw_p100 : lw_okq (⟨"RouteStridesModel", "isRule", "(I)Z"⟩, 52) := ⟨⟨by decide +kernel, by decide +kernel⟩, List.mem_of_getElem? (i := 1010) (by decide +kernel), List.mem_of_getElem? (i := 1507) (by decide +kernel), List.mem_of_getElem? (i := 1508) (by decide +kernel)⟩
theorem lw_p101 : lw_okq (⟨"RouteStridesModel", "servedBy", "(I)J"⟩, 52) := ⟨⟨by decide +kernel, by decide +kernel⟩, List.mem_of_getElem? (i := 1010) (by decide +kernel), List.mem_of_getElem? (i := 1511) (by decide +kernel), List.mem_of_getElem? (i := 1512) (by decide +kernel)⟩
theorem lw_p102 : lw_okq (⟨"RouteStridesModel", "parentOf", "(I)I"⟩, 52) := ⟨⟨by decide +kernel, by decide +kernel⟩, List.mem_of_getElem? (i := 1010) (by decide +kernel), List.mem_of_getElem? (i := 1515) (by decide +kernel), List.mem_of_getElem? (i := 1516) (by decide +kernel)⟩
theorem lw_p103 : lw_okq (⟨"RouteStridesModel", "isHop", "(I)Z"⟩, 52) := ⟨⟨by decide +kernel, by decide +kernel⟩, List.mem_of_getElem? (i := 1010) (by decide +kernel), List.mem_of_getElem? (i := 1527) (by decide +kernel), List.mem_of_getElem? (i := 1528) (by decide +kernel)⟩
theorem lw_p104 : lw_okq (⟨"RouteStridesModel", "isNode", "(I)Z"⟩, 52) := ⟨⟨by decide +kernel, by decide +kernel⟩, List.mem_of_getElem? (i := 1010) (by decide +kernel), List.mem_of_getElem? (i := 1540) (by decide +kernel), List.mem_of_getElem? (i := 1541) (by decide +kernel)⟩
theorem lw_p105 : lw_okq (⟨"RouteStridesModel", "parentNode", "(I)I"⟩, 52) := ⟨⟨by decide +kernel, by decide +kernel⟩, List.mem_of_getElem? (i := 1010) (by decide +kernel), List.mem_of_getElem? (i := 1545) (by decide +kernel), List.mem_of_getElem? (i := 1546) (by decide +kernel)⟩
theorem lw_p106 : lw_okq (⟨"RouteStridesModel", "hopBy", "(I)I"⟩, 52) := ⟨⟨by decide +kernel, by decide +kernel⟩, List.mem_of_getElem? (i := 1010) (by decide +kernel), List.mem_of_getElem? (i := 1553) (by decide +kernel), List.mem_of_getElem? (i := 1554) (by decide +kernel)⟩
theorem lw_p107 : lw_okq (⟨"RouteStridesModel", "leads", "(II)Z"⟩, 52) := ⟨⟨by decide +kernel, by decide +kernel⟩, List.mem_of_getElem? (i := 1010) (by decide +kernel), List.mem_of_getElem? (i := 1561) (by decide +kernel), List.mem_of_getElem? (i := 1562) (by decide +kernel)⟩
theorem lw_p108 : lw_okq (⟨"RouteStridesModel", "slotFirst", "(II)J"⟩, 52) := ⟨⟨by decide +kernel, by decide +kernel⟩, List.mem_of_getElem? (i := 1010) (by decide +kernel), List.mem_of_getElem? (i := 1565) (by decide +kernel), List.mem_of_getElem? (i := 1566) (by decide +kernel)⟩
theorem lw_p109 : lw_okq (⟨"RouteStridesModel", "laysClasses", "()V"⟩, 52) := ⟨⟨by decide +kernel, by decide +kernel⟩, List.mem_of_getElem? (i := 1010) (by decide +kernel), List.mem_of_getElem? (i := 1573) (by decide +kernel), List.mem_of_getElem? (i := 1574) (by decide +kernel)⟩
theorem lw_p110 : lw_okq (⟨"RouteStridesModel", "laysKinds", "(I)V"⟩, 52) := ⟨⟨by decide +kernel, by decide +kernel⟩, List.mem_of_getElem? (i := 1010) (by decide +kernel), List.mem_of_getElem? (i := 1577) (by decide +kernel), List.mem_of_getElem? (i := 1578) (by decide +kernel)⟩
theorem lw_p111 : lw_okq (⟨"RouteStridesModel", "areLike", "(II)Z"⟩, 52) := ⟨⟨by decide +kernel, by decide +kernel⟩, List.mem_of_getElem? (i := 1010) (by decide +kernel), List.mem_of_getElem? (i := 1581) (by decide +kernel), List.mem_of_getElem? (i := 1582) (by decide +kernel)⟩
def lw_privs_7 : List (MethodName × Nat) := [(⟨"RouteStridesModel", "hasChild", "(IJ)Z"⟩, 52), (⟨"RouteStridesModel", "storedPlace", "(J)I"⟩, 52), (⟨"RouteStridesModel", "hopWithout", "(J)I"⟩, 52), (⟨"RouteStridesModel", "nodeAt", "(IJ)I"⟩, 52), (⟨"RouteStridesModel", "isRule", "(I)Z"⟩, 52), (⟨"RouteStridesModel", "servedBy", "(I)J"⟩, 52), (⟨"RouteStridesModel", "parentOf", "(I)I"⟩, 52), (⟨"RouteStridesModel", "isHop", "(I)Z"⟩, 52), (⟨"RouteStridesModel", "isNode", "(I)Z"⟩, 52), (⟨"RouteStridesModel", "parentNode", "(I)I"⟩, 52), (⟨"RouteStridesModel", "hopBy", "(I)I"⟩, 52), (⟨"RouteStridesModel", "leads", "(II)Z"⟩, 52), (⟨"RouteStridesModel", "slotFirst", "(II)J"⟩, 52), (⟨"RouteStridesModel", "laysClasses", "()V"⟩, 52), (⟨"RouteStridesModel", "laysKinds", "(I)V"⟩, 52), (⟨"RouteStridesModel", "areLike", "(II)Z"⟩, 52)]
theorem lw_r7 : ∀ q ∈ lw_privs_7, lw_okq q := List.forall_mem_cons.mpr ⟨lw_p96, List.forall_mem_cons.mpr ⟨lw_p97, List.forall_mem_cons.mpr ⟨lw_p98, List.forall_mem_cons.mpr ⟨lw_p99, List.forall_mem_cons.mpr ⟨lw_p100, List.forall_mem_cons.mpr ⟨lw_p101, List.forall_mem_cons.mpr ⟨lw_p102, List.forall_mem_cons.mpr ⟨lw_p103, List.forall_mem_cons.mpr ⟨lw_p104, List.forall_mem_cons.mpr ⟨lw_p105, List.forall_mem_cons.mpr ⟨lw_p106, List.forall_mem_cons.mpr ⟨lw_p107, List.forall_mem_cons.mpr ⟨lw_p108, List.forall_mem_cons.mpr ⟨lw_p109, List.forall_mem_cons.mpr ⟨lw_p110, List.forall_mem_cons.mpr ⟨lw_p111, fun _ h => absurd h List.not_mem_nil⟩⟩⟩⟩⟩⟩⟩⟩⟩⟩⟩⟩⟩⟩⟩⟩
theorem lw_p112 : lw_okq (⟨"RouteStridesModel", "storedAt", "(I)I"⟩, 52) := ⟨⟨by decide +kernel, by decide +kernel⟩, List.mem_of_getElem? (i := 1010) (by decide +kernel), List.mem_of_getElem? (i := 1589) (by decide +kernel), List.mem_of_getElem? (i := 1590) (by decide +kernel)⟩
theorem lw_p113 : lw_okq (⟨"RouteStridesModel", "unlikeAt", "(I)I"⟩, 52) := ⟨⟨by decide +kernel, by decide +kernel⟩, List.mem_of_getElem? (i := 1010) (by decide +kernel), List.mem_of_getElem? (i := 1593) (by decide +kernel), List.mem_of_getElem? (i := 1594) (by decide +kernel)⟩
theorem lw_p114 : lw_okq (⟨"RouteStridesModel", "laysFewest", "()V"⟩, 52) := ⟨⟨by decide +kernel, by decide +kernel⟩, List.mem_of_getElem? (i := 1010) (by decide +kernel), List.mem_of_getElem? (i := 1620) (by decide +kernel), List.mem_of_getElem? (i := 1621) (by decide +kernel)⟩
theorem lw_p115 : lw_okq (⟨"RouteStridesModel", "hands", "(JII)V"⟩, 52) := ⟨⟨by decide +kernel, by decide +kernel⟩, List.mem_of_getElem? (i := 1010) (by decide +kernel), List.mem_of_getElem? (i := 1624) (by decide +kernel), List.mem_of_getElem? (i := 1625) (by decide +kernel)⟩
theorem lw_p116 : lw_okq (⟨"RouteStridesModel", "setOf", "(JI)J"⟩, 52) := ⟨⟨by decide +kernel, by decide +kernel⟩, List.mem_of_getElem? (i := 1010) (by decide +kernel), List.mem_of_getElem? (i := 1628) (by decide +kernel), List.mem_of_getElem? (i := 1629) (by decide +kernel)⟩
theorem lw_p117 : lw_okq (⟨"RouteStridesModel", "ownSet", "(J)J"⟩, 52) := ⟨⟨by decide +kernel, by decide +kernel⟩, List.mem_of_getElem? (i := 1010) (by decide +kernel), List.mem_of_getElem? (i := 1632) (by decide +kernel), List.mem_of_getElem? (i := 1633) (by decide +kernel)⟩
theorem lw_p118 : lw_okq (⟨"RouteStridesModel", "areFewest", "()Z"⟩, 52) := ⟨⟨by decide +kernel, by decide +kernel⟩, List.mem_of_getElem? (i := 1010) (by decide +kernel), List.mem_of_getElem? (i := 1643) (by decide +kernel), List.mem_of_getElem? (i := 1644) (by decide +kernel)⟩
theorem lw_p119 : lw_okq (⟨"RouteStridesModel", "ownAt", "(III)J"⟩, 52) := ⟨⟨by decide +kernel, by decide +kernel⟩, List.mem_of_getElem? (i := 1010) (by decide +kernel), List.mem_of_getElem? (i := 1651) (by decide +kernel), List.mem_of_getElem? (i := 1652) (by decide +kernel)⟩
theorem lw_p120 : lw_okq (⟨"RouteStridesModel", "laysSlots", "()V"⟩, 52) := ⟨⟨by decide +kernel, by decide +kernel⟩, List.mem_of_getElem? (i := 1010) (by decide +kernel), List.mem_of_getElem? (i := 1661) (by decide +kernel), List.mem_of_getElem? (i := 1662) (by decide +kernel)⟩
theorem lw_p121 : lw_okq (⟨"RouteStridesModel", "nodesOf", "(I)I"⟩, 52) := ⟨⟨by decide +kernel, by decide +kernel⟩, List.mem_of_getElem? (i := 1010) (by decide +kernel), List.mem_of_getElem? (i := 1665) (by decide +kernel), List.mem_of_getElem? (i := 1666) (by decide +kernel)⟩
theorem lw_p122 : lw_okq (⟨"RouteStridesModel", "slotsIf", "(III)I"⟩, 52) := ⟨⟨by decide +kernel, by decide +kernel⟩, List.mem_of_getElem? (i := 1010) (by decide +kernel), List.mem_of_getElem? (i := 1670) (by decide +kernel), List.mem_of_getElem? (i := 1671) (by decide +kernel)⟩
theorem lw_p123 : lw_okq (⟨"RouteStridesModel", "stridesOf", "(I)J"⟩, 52) := ⟨⟨by decide +kernel, by decide +kernel⟩, List.mem_of_getElem? (i := 1010) (by decide +kernel), List.mem_of_getElem? (i := 1674) (by decide +kernel), List.mem_of_getElem? (i := 1675) (by decide +kernel)⟩
theorem lw_p124 : lw_okq (⟨"RouteStridesModel", "hops", "()I"⟩, 52) := ⟨⟨by decide +kernel, by decide +kernel⟩, List.mem_of_getElem? (i := 1010) (by decide +kernel), List.mem_of_getElem? (i := 1682) (by decide +kernel), List.mem_of_getElem? (i := 1683) (by decide +kernel)⟩
theorem lw_p125 : lw_okq (⟨"RouteStridesModel", "allLevels", "(I)I"⟩, 52) := ⟨⟨by decide +kernel, by decide +kernel⟩, List.mem_of_getElem? (i := 1010) (by decide +kernel), List.mem_of_getElem? (i := 1686) (by decide +kernel), List.mem_of_getElem? (i := 1687) (by decide +kernel)⟩
theorem lw_p126 : lw_okq (⟨"RouteStridesModel", "idle", "()I"⟩, 52) := ⟨⟨by decide +kernel, by decide +kernel⟩, List.mem_of_getElem? (i := 1010) (by decide +kernel), List.mem_of_getElem? (i := 1691) (by decide +kernel), List.mem_of_getElem? (i := 1692) (by decide +kernel)⟩
theorem lw_p127 : lw_okq (⟨"RouteStridesModel", "keptSet", "()I"⟩, 52) := ⟨⟨by decide +kernel, by decide +kernel⟩, List.mem_of_getElem? (i := 1010) (by decide +kernel), List.mem_of_getElem? (i := 1695) (by decide +kernel), List.mem_of_getElem? (i := 1696) (by decide +kernel)⟩
def lw_privs_8 : List (MethodName × Nat) := [(⟨"RouteStridesModel", "storedAt", "(I)I"⟩, 52), (⟨"RouteStridesModel", "unlikeAt", "(I)I"⟩, 52), (⟨"RouteStridesModel", "laysFewest", "()V"⟩, 52), (⟨"RouteStridesModel", "hands", "(JII)V"⟩, 52), (⟨"RouteStridesModel", "setOf", "(JI)J"⟩, 52), (⟨"RouteStridesModel", "ownSet", "(J)J"⟩, 52), (⟨"RouteStridesModel", "areFewest", "()Z"⟩, 52), (⟨"RouteStridesModel", "ownAt", "(III)J"⟩, 52), (⟨"RouteStridesModel", "laysSlots", "()V"⟩, 52), (⟨"RouteStridesModel", "nodesOf", "(I)I"⟩, 52), (⟨"RouteStridesModel", "slotsIf", "(III)I"⟩, 52), (⟨"RouteStridesModel", "stridesOf", "(I)J"⟩, 52), (⟨"RouteStridesModel", "hops", "()I"⟩, 52), (⟨"RouteStridesModel", "allLevels", "(I)I"⟩, 52), (⟨"RouteStridesModel", "idle", "()I"⟩, 52), (⟨"RouteStridesModel", "keptSet", "()I"⟩, 52)]
theorem lw_r8 : ∀ q ∈ lw_privs_8, lw_okq q := List.forall_mem_cons.mpr ⟨lw_p112, List.forall_mem_cons.mpr ⟨lw_p113, List.forall_mem_cons.mpr ⟨lw_p114, List.forall_mem_cons.mpr ⟨lw_p115, List.forall_mem_cons.mpr ⟨lw_p116, List.forall_mem_cons.mpr ⟨lw_p117, List.forall_mem_cons.mpr ⟨lw_p118, List.forall_mem_cons.mpr ⟨lw_p119, List.forall_mem_cons.mpr ⟨lw_p120, List.forall_mem_cons.mpr ⟨lw_p121, List.forall_mem_cons.mpr ⟨lw_p122, List.forall_mem_cons.mpr ⟨lw_p123, List.forall_mem_cons.mpr ⟨lw_p124, List.forall_mem_cons.mpr ⟨lw_p125, List.forall_mem_cons.mpr ⟨lw_p126, List.forall_mem_cons.mpr ⟨lw_p127, fun _ h => absurd h List.not_mem_nil⟩⟩⟩⟩⟩⟩⟩⟩⟩⟩⟩⟩⟩⟩⟩⟩
def lw_privs : List (MethodName × Nat) := lw_privs_1 ++ (lw_privs_2 ++ (lw_privs_3 ++ (lw_privs_4 ++ (lw_privs_5 ++ (lw_privs_6 ++ (lw_privs_7 ++ (lw_privs_8)))))))
def lw_tbl : List Cond := k2_sels lw_privs ++ tables_1
theorem lw_privs_ok : ∀ q ∈ lw_privs, lw_okq q := by
  show ∀ q ∈ lw_privs_1 ++ (lw_privs_2 ++ (lw_privs_3 ++ (lw_privs_4 ++ (lw_privs_5 ++ (lw_privs_6 ++ (lw_privs_7 ++ (lw_privs_8))))))), lw_okq q
  exact List.forall_mem_append.mpr ⟨lw_r1, List.forall_mem_append.mpr ⟨lw_r2, List.forall_mem_append.mpr ⟨lw_r3, List.forall_mem_append.mpr ⟨lw_r4, List.forall_mem_append.mpr ⟨lw_r5, List.forall_mem_append.mpr ⟨lw_r6, List.forall_mem_append.mpr ⟨lw_r7, lw_r8⟩⟩⟩⟩⟩⟩⟩
/-- the streams that the claim lets the run draw from -/
abbrev lw_cs : List Choice := [Jvm.Choice.named "NaN.bits"]
theorem lw_bits : nanBits ∈ lw_cs := by first | decide | exact List.mem_cons_self | simp [lw_cs, nanBits]
-- ===== end of PART A; then your names; then what follows =====
def RX0 : String := "RouteStrides$Costs"
def TX0 : u_T := fun k => match k with
  | 0 => ("RouteStrides$Costs", "nodesAt", "[J", true)
  | _ => ("RouteStrides$Costs", "slotsFrom", "[[J", true)
def tyX0 : Nat → FieldType := fun k => match k with
  | 0 => .array .long
  | _ => .array (.array .long)
theorem nmX0 : ∀ a, a < 2 → ∀ b, b < 2 → a ≠ b → (TX0 a).2.1 ≠ (TX0 b).2.1 := by decide +kernel
theorem tyX0_ok : ∀ k, k < 2 → parseFieldDescriptor (TX0 k).2.2.1 = some (tyX0 k) := by decide +kernel
def RX1 : String := "RouteStrides$Fewest"
def TX1 : u_T := fun k => match k with
  | 0 => ("RouteStrides$Fewest", "size", "I", false)
  | 1 => ("RouteStrides$Fewest", "value", "[J", true)
  | 2 => ("RouteStrides$Fewest", "length", "[I", true)
  | 3 => ("RouteStrides$Fewest", "hopOf", "[I", true)
  | 4 => ("RouteStrides$Fewest", "set", "[J", true)
  | 5 => ("RouteStrides$Fewest", "rightHalf", "[I", true)
  | _ => ("RouteStrides$Fewest", "parts", "I", false)
def tyX1 : Nat → FieldType := fun k => match k with
  | 0 => .int
  | 1 => .array .long
  | 2 => .array .int
  | 3 => .array .int
  | 4 => .array .long
  | 5 => .array .int
  | _ => .int
theorem nmX1 : ∀ a, a < 7 → ∀ b, b < 7 → a ≠ b → (TX1 a).2.1 ≠ (TX1 b).2.1 := by decide +kernel
theorem tyX1_ok : ∀ k, k < 7 → parseFieldDescriptor (TX1 k).2.2.1 = some (tyX1 k) := by decide +kernel
def RX2 : String := "RouteStrides$Kinds"
def TX2 : u_T := fun k => match k with
  | 0 => ("RouteStrides$Kinds", "kind", "[I", true)
  | 1 => ("RouteStrides$Kinds", "rowStart", "[I", true)
  | _ => ("RouteStrides$Kinds", "nextInRow", "[I", true)
def tyX2 : Nat → FieldType := fun k => match k with
  | 0 => .array .int
  | 1 => .array .int
  | _ => .array .int
theorem nmX2 : ∀ a, a < 3 → ∀ b, b < 3 → a ≠ b → (TX2 a).2.1 ≠ (TX2 b).2.1 := by decide +kernel
theorem tyX2_ok : ∀ k, k < 3 → parseFieldDescriptor (TX2 k).2.2.1 = some (tyX2 k) := by decide +kernel
def RX3 : String := "RouteStrides$Nodes"
def TX3 : u_T := fun k => match k with
  | 0 => ("RouteStrides$Nodes", "size", "I", false)
  | 1 => ("RouteStrides$Nodes", "value", "[J", true)
  | 2 => ("RouteStrides$Nodes", "levelOf", "[I", true)
  | 3 => ("RouteStrides$Nodes", "child", "[J", true)
  | 4 => ("RouteStrides$Nodes", "run", "[J", true)
  | 5 => ("RouteStrides$Nodes", "parent", "[I", true)
  | 6 => ("RouteStrides$Nodes", "firstChild", "[I", true)
  | 7 => ("RouteStrides$Nodes", "trail", "[I", true)
  | 8 => ("RouteStrides$Nodes", "storedFrom", "[I", true)
  | 9 => ("RouteStrides$Nodes", "storedHop", "[I", true)
  | 10 => ("RouteStrides$Nodes", "storedKey", "[I", true)
  | 11 => ("RouteStrides$Nodes", "spanAt", "[I", true)
  | 12 => ("RouteStrides$Nodes", "levelFrom", "[I", true)
  | 13 => ("RouteStrides$Nodes", "bitsAhead", "[I", true)
  | 14 => ("RouteStrides$Nodes", "stride", "[I", true)
  | 15 => ("RouteStrides$Nodes", "levels", "I", false)
  | 16 => ("RouteStrides$Nodes", "storedSize", "I", false)
  | _ => ("RouteStrides$Nodes", "gone", "I", false)
def tyX3 : Nat → FieldType := fun k => match k with
  | 0 => .int
  | 1 => .array .long
  | 2 => .array .int
  | 3 => .array .long
  | 4 => .array .long
  | 5 => .array .int
  | 6 => .array .int
  | 7 => .array .int
  | 8 => .array .int
  | 9 => .array .int
  | 10 => .array .int
  | 11 => .array .int
  | 12 => .array .int
  | 13 => .array .int
  | 14 => .array .int
  | 15 => .int
  | 16 => .int
  | _ => .int
theorem nmX3 : ∀ a, a < 18 → ∀ b, b < 18 → a ≠ b → (TX3 a).2.1 ≠ (TX3 b).2.1 := by decide +kernel
theorem tyX3_ok : ∀ k, k < 18 → parseFieldDescriptor (TX3 k).2.2.1 = some (tyX3 k) := by decide +kernel
def RX4 : String := "RouteStrides$Pieces"
def TX4 : u_T := fun k => match k with
  | 0 => ("RouteStrides$Pieces", "size", "I", false)
  | 1 => ("RouteStrides$Pieces", "value", "[J", true)
  | _ => ("RouteStrides$Pieces", "length", "[I", true)
def tyX4 : Nat → FieldType := fun k => match k with
  | 0 => .int
  | 1 => .array .long
  | _ => .array .int
theorem nmX4 : ∀ a, a < 3 → ∀ b, b < 3 → a ≠ b → (TX4 a).2.1 ≠ (TX4 b).2.1 := by decide +kernel
theorem tyX4_ok : ∀ k, k < 3 → parseFieldDescriptor (TX4 k).2.2.1 = some (tyX4 k) := by decide +kernel
def RX5 : String := "RouteStrides$Spans"
def TX5 : u_T := fun k => match k with
  | 0 => ("RouteStrides$Spans", "size", "I", false)
  | 1 => ("RouteStrides$Spans", "first", "[J", true)
  | 2 => ("RouteStrides$Spans", "last", "[J", true)
  | 3 => ("RouteStrides$Spans", "hopOf", "[I", true)
  | 4 => ("RouteStrides$Spans", "keyOfSpan", "[I", true)
  | 5 => ("RouteStrides$Spans", "serving", "[J", true)
  | 6 => ("RouteStrides$Spans", "outer", "[I", true)
  | 7 => ("RouteStrides$Spans", "open", "[I", true)
  | 8 => ("RouteStrides$Spans", "depth", "I", false)
  | _ => ("RouteStrides$Spans", "next", "J", false)
def tyX5 : Nat → FieldType := fun k => match k with
  | 0 => .int
  | 1 => .array .long
  | 2 => .array .long
  | 3 => .array .int
  | 4 => .array .int
  | 5 => .array .long
  | 6 => .array .int
  | 7 => .array .int
  | 8 => .int
  | _ => .long
theorem nmX5 : ∀ a, a < 10 → ∀ b, b < 10 → a ≠ b → (TX5 a).2.1 ≠ (TX5 b).2.1 := by decide +kernel
theorem tyX5_ok : ∀ k, k < 10 → parseFieldDescriptor (TX5 k).2.2.1 = some (tyX5 k) := by decide +kernel
def RX6 : String := "RouteStrides$Table"
def TX6 : u_T := fun k => match k with
  | 0 => ("RouteStrides$Table", "rules", "I", false)
  | 1 => ("RouteStrides$Table", "value", "[J", true)
  | 2 => ("RouteStrides$Table", "length", "[I", true)
  | 3 => ("RouteStrides$Table", "hopOf", "[I", true)
  | 4 => ("RouteStrides$Table", "key", "[I", true)
  | 5 => ("RouteStrides$Table", "users", "[I", true)
  | 6 => ("RouteStrides$Table", "levels", "I", false)
  | _ => ("RouteStrides$Table", "stride", "[I", true)
def tyX6 : Nat → FieldType := fun k => match k with
  | 0 => .int
  | 1 => .array .long
  | 2 => .array .int
  | 3 => .array .int
  | 4 => .array .int
  | 5 => .array .int
  | 6 => .int
  | _ => .array .int
theorem nmX6 : ∀ a, a < 8 → ∀ b, b < 8 → a ≠ b → (TX6 a).2.1 ≠ (TX6 b).2.1 := by decide +kernel
theorem tyX6_ok : ∀ k, k < 8 → parseFieldDescriptor (TX6 k).2.2.1 = some (tyX6 k) := by decide +kernel
def RX7 : String := "RouteStrides$Tape"
def TX7 : u_T := fun k => match k with
  | 0 => ("RouteStrides$Tape", "size", "I", false)
  | 1 => ("RouteStrides$Tape", "bytes", "[I", true)
  | 2 => ("RouteStrides$Tape", "at", "I", false)
  | _ => ("RouteStrides$Tape", "fault", "I", false)
def tyX7 : Nat → FieldType := fun k => match k with
  | 0 => .int
  | 1 => .array .int
  | 2 => .int
  | _ => .int
theorem nmX7 : ∀ a, a < 4 → ∀ b, b < 4 → a ≠ b → (TX7 a).2.1 ≠ (TX7 b).2.1 := by decide +kernel
theorem tyX7_ok : ∀ k, k < 4 → parseFieldDescriptor (TX7 k).2.2.1 = some (tyX7 k) := by decide +kernel
def RX8 : String := "RouteStrides"
def TX8 : u_T := fun k => match k with
  | 0 => ("RouteStrides", "tape", "LRouteStrides$Tape;", true)
  | 1 => ("RouteStrides", "now", "LRouteStrides$Table;", true)
  | 2 => ("RouteStrides", "trial", "LRouteStrides$Table;", true)
  | 3 => ("RouteStrides", "past", "[LRouteStrides$Table;", true)
  | 4 => ("RouteStrides", "shelves", "[LRouteStrides$Table;", true)
  | 5 => ("RouteStrides", "acts", "I", false)
  | 6 => ("RouteStrides", "kept", "I", false)
  | 7 => ("RouteStrides", "touched", "I", false)
  | 8 => ("RouteStrides", "known", "I", false)
  | 9 => ("RouteStrides", "spans", "LRouteStrides$Spans;", true)
  | 10 => ("RouteStrides", "otherSpans", "LRouteStrides$Spans;", true)
  | 11 => ("RouteStrides", "nodes", "LRouteStrides$Nodes;", true)
  | 12 => ("RouteStrides", "otherNodes", "LRouteStrides$Nodes;", true)
  | 13 => ("RouteStrides", "kinds", "LRouteStrides$Kinds;", true)
  | 14 => ("RouteStrides", "few", "LRouteStrides$Fewest;", true)
  | 15 => ("RouteStrides", "costs", "LRouteStrides$Costs;", true)
  | _ => ("RouteStrides", "pieces", "LRouteStrides$Pieces;", true)
def tyX8 : Nat → FieldType := fun k => match k with
  | 0 => .object "RouteStrides$Tape"
  | 1 => .object "RouteStrides$Table"
  | 2 => .object "RouteStrides$Table"
  | 3 => .array (.object "RouteStrides$Table")
  | 4 => .array (.object "RouteStrides$Table")
  | 5 => .int
  | 6 => .int
  | 7 => .int
  | 8 => .int
  | 9 => .object "RouteStrides$Spans"
  | 10 => .object "RouteStrides$Spans"
  | 11 => .object "RouteStrides$Nodes"
  | 12 => .object "RouteStrides$Nodes"
  | 13 => .object "RouteStrides$Kinds"
  | 14 => .object "RouteStrides$Fewest"
  | 15 => .object "RouteStrides$Costs"
  | _ => .object "RouteStrides$Pieces"
theorem nmX8 : ∀ a, a < 17 → ∀ b, b < 17 → a ≠ b → (TX8 a).2.1 ≠ (TX8 b).2.1 := by decide +kernel
theorem tyX8_ok : ∀ k, k < 17 → parseFieldDescriptor (TX8 k).2.2.1 = some (tyX8 k) := by decide +kernel
def RX9 : String := "RouteStridesModel"
def TX9 : u_T := fun k => match k with
  | 0 => ("RouteStridesModel", "now", "[I", true)
  | 1 => ("RouteStridesModel", "was", "[I", true)
  | 2 => ("RouteStridesModel", "undone", "I", false)
  | 3 => ("RouteStridesModel", "kept", "[I", true)
  | 4 => ("RouteStridesModel", "isKept", "[Z", true)
  | 5 => ("RouteStridesModel", "touched", "I", false)
  | 6 => ("RouteStridesModel", "rowMany", "[I", true)
  | 7 => ("RouteStridesModel", "rowFirst", "[J", true)
  | 8 => ("RouteStridesModel", "rowCode", "[I", true)
  | 9 => ("RouteStridesModel", "tableLevels", "[I", true)
  | 10 => ("RouteStridesModel", "tableStride", "[I", true)
  | 11 => ("RouteStridesModel", "tableLength", "[I", true)
  | 12 => ("RouteStridesModel", "placeMany", "I", false)
  | 13 => ("RouteStridesModel", "place", "[J", true)
  | 14 => ("RouteStridesModel", "placeRule", "[I", true)
  | 15 => ("RouteStridesModel", "nodeMany", "I", false)
  | 16 => ("RouteStridesModel", "nodeLevel", "[I", true)
  | 17 => ("RouteStridesModel", "nodeValue", "[J", true)
  | 18 => ("RouteStridesModel", "levelFrom", "[I", true)
  | 19 => ("RouteStridesModel", "areClasses", "Z", false)
  | 20 => ("RouteStridesModel", "childBits", "J", false)
  | 21 => ("RouteStridesModel", "runBits", "J", false)
  | 22 => ("RouteStridesModel", "storedMany", "I", false)
  | 23 => ("RouteStridesModel", "storedCode", "[I", true)
  | 24 => ("RouteStridesModel", "childThen", "J", false)
  | 25 => ("RouteStridesModel", "runThen", "J", false)
  | 26 => ("RouteStridesModel", "storedThen", "I", false)
  | 27 => ("RouteStridesModel", "codeThen", "[I", true)
  | 28 => ("RouteStridesModel", "tried", "[I", true)
  | 29 => ("RouteStridesModel", "coverMany", "I", false)
  | 30 => ("RouteStridesModel", "coverValue", "[J", true)
  | 31 => ("RouteStridesModel", "coverLength", "[I", true)
  | 32 => ("RouteStridesModel", "toldLevels", "I", false)
  | 33 => ("RouteStridesModel", "toldStride", "[I", true)
  | 34 => ("RouteStridesModel", "tape", "[B", true)
  | 35 => ("RouteStridesModel", "taped", "I", false)
  | 36 => ("RouteStridesModel", "at", "I", false)
  | 37 => ("RouteStridesModel", "wrong", "I", false)
  | 38 => ("RouteStridesModel", "number", "I", false)
  | 39 => ("RouteStridesModel", "begun", "I", false)
  | 40 => ("RouteStridesModel", "toldMany", "I", false)
  | 41 => ("RouteStridesModel", "toldValue", "[J", true)
  | 42 => ("RouteStridesModel", "toldLength", "[I", true)
  | 43 => ("RouteStridesModel", "toldCode", "[I", true)
  | 44 => ("RouteStridesModel", "firstLike", "[I", true)
  | 45 => ("RouteStridesModel", "slotKind", "[I", true)
  | 46 => ("RouteStridesModel", "fewMany", "I", false)
  | 47 => ("RouteStridesModel", "fewValue", "[J", true)
  | 48 => ("RouteStridesModel", "fewLength", "[I", true)
  | 49 => ("RouteStridesModel", "fewHop", "[I", true)
  | 50 => ("RouteStridesModel", "nodesBy", "[I", true)
  | _ => ("RouteStridesModel", "slotsBy", "[I", true)
def tyX9 : Nat → FieldType := fun k => match k with
  | 0 => .array .int
  | 1 => .array .int
  | 2 => .int
  | 3 => .array .int
  | 4 => .array .boolean
  | 5 => .int
  | 6 => .array .int
  | 7 => .array .long
  | 8 => .array .int
  | 9 => .array .int
  | 10 => .array .int
  | 11 => .array .int
  | 12 => .int
  | 13 => .array .long
  | 14 => .array .int
  | 15 => .int
  | 16 => .array .int
  | 17 => .array .long
  | 18 => .array .int
  | 19 => .boolean
  | 20 => .long
  | 21 => .long
  | 22 => .int
  | 23 => .array .int
  | 24 => .long
  | 25 => .long
  | 26 => .int
  | 27 => .array .int
  | 28 => .array .int
  | 29 => .int
  | 30 => .array .long
  | 31 => .array .int
  | 32 => .int
  | 33 => .array .int
  | 34 => .array .byte
  | 35 => .int
  | 36 => .int
  | 37 => .int
  | 38 => .int
  | 39 => .int
  | 40 => .int
  | 41 => .array .long
  | 42 => .array .int
  | 43 => .array .int
  | 44 => .array .int
  | 45 => .array .int
  | 46 => .int
  | 47 => .array .long
  | 48 => .array .int
  | 49 => .array .int
  | 50 => .array .int
  | _ => .array .int
theorem nmX9 : ∀ a, a < 52 → ∀ b, b < 52 → a ≠ b → (TX9 a).2.1 ≠ (TX9 b).2.1 := by decide +kernel
theorem tyX9_ok : ∀ k, k < 52 → parseFieldDescriptor (TX9 k).2.2.1 = some (tyX9 k) := by decide +kernel
abbrev xcl : List vw_C := [(RX0, TX0, 2), (RX1, TX1, 7), (RX2, TX2, 3), (RX3, TX3, 18), (RX4, TX4, 3), (RX5, TX5, 10), (RX6, TX6, 8), (RX7, TX7, 4), (RX8, TX8, 17), (RX9, TX9, 52)]
def xcns : List String := ["RouteStrides$Costs", "RouteStrides$Fewest", "RouteStrides$Kinds", "RouteStrides$Nodes", "RouteStrides$Pieces", "RouteStrides$Spans", "RouteStrides$Table", "RouteStrides$Tape", "RouteStrides", "RouteStridesModel", "RouteStridesLaw", "java/lang/Math", "java/lang/Long"]
def xfs : List (List (Nat × Nat × Int)) := [[(4, 33, 1), (7, 33, 2)], [(0, 0, 0), (4, 60, 1), (3, 60, 2), (3, 60, 3), (4, 3723, 4), (3, 3723, 5), (0, 0, 0)], [(3, 901, 1), (3, 64, 2), (3, 901, 3)], [(0, 0, 0), (4, 901, 1), (3, 901, 2), (4, 901, 3), (4, 901, 4), (3, 901, 5), (3, 901, 6), (3, 16, 7), (3, 902, 8), (3, 2837, 9), (3, 2837, 10), (3, 901, 11), (3, 17, 12), (3, 17, 13), (3, 16, 14), (0, 0, 0), (0, 0, 0), (0, 0, 0)], [(0, 0, 0), (4, 64, 1), (3, 64, 2)], [(0, 0, 0), (4, 121, 1), (4, 121, 2), (3, 121, 3), (3, 121, 4), (4, 60, 5), (3, 60, 6), (3, 33, 7), (0, 0, 0), (1, 0, 0)], [(0, 0, 0), (4, 60, 1), (3, 60, 2), (3, 60, 3), (3, 60, 4), (3, 60, 5), (0, 0, 0), (3, 16, 6)], [(0, 0, 0), (3, 400, 1), (0, 0, 0), (0, 0, 0)], [(2, 7, 1), (2, 6, 3), (2, 6, 10), (6, 10, 17), (6, 2, 18), (0, 0, 0), (0, 0, 0), (0, 0, 0), (0, 0, 0), (2, 5, 19), (2, 5, 27), (2, 3, 35), (2, 3, 50), (2, 2, 65), (2, 1, 69), (2, 0, 75), (2, 4, 111)], [(3, 259, 1), (3, 2590, 2), (0, 0, 0), (3, 518, 3), (5, 2, 4), (0, 0, 0), (3, 2, 5), (4, 248, 6), (3, 248, 7), (3, 2, 8), (3, 32, 9), (3, 34, 10), (0, 0, 0), (4, 124, 11), (3, 124, 12), (0, 0, 0), (3, 2000, 13), (4, 2000, 14), (3, 18, 15), (0, 1, 0), (1, 0, 0), (1, 0, 0), (0, 0, 0), (3, 64, 16), (1, 0, 0), (1, 0, 0), (0, 0, 0), (3, 64, 17), (3, 259, 18), (0, 0, 0), (4, 64, 19), (3, 64, 20), (0, 0, 0), (3, 24, 21), (12, 400, 22), (0, 0, 0), (0, 0, 0), (0, 0, 0), (0, 0, 0), (0, 0, 0), (0, 0, 0), (4, 64, 23), (3, 64, 24), (3, 64, 25), (3, 2000, 26), (3, 128000, 27), (0, 0, 0), (4, 128, 28), (3, 128, 29), (3, 128, 30), (3, 33, 31), (3, 561, 32)]]
/-- a method: its class, whether it is static, its name, code, locals, answer, where its words stand, its parameters -/
abbrev xT : Type := Nat × Nat × MethodName × Nat × Option FieldType × Nat × Nat × Nat × Nat × Nat
def mts_0 : List xT := [(12, 1, ⟨"java/lang/Long", "bitCount", "(J)I"⟩, 2, (some .int), 788, 144, 787, 0, 1),
  (0, 0, ⟨"RouteStrides$Costs", "weigh", "(LRouteStrides$Spans;)V"⟩, 4, none, 1068, 136, 1066, 1067, 1),
  (0, 1, ⟨"RouteStrides$Costs", "partedBeginnings", "(LRouteStrides$Spans;I)J"⟩, 13, (some .long), 1071, 136, 1070, 0, 2),
  (0, 0, ⟨"RouteStrides$Costs", "slotsWith", "(III)J"⟩, 5, (some .long), 1082, 136, 1081, 44, 3),
  (0, 0, ⟨"RouteStrides$Costs", "fewestSlots", "(II)J"⟩, 6, (some .long), 1078, 136, 1077, 43, 2),
  (0, 0, ⟨"RouteStrides$Costs", "slotsBy", "(I)J"⟩, 2, (some .long), 1091, 136, 1089, 1090, 1),
  (0, 0, ⟨"RouteStrides$Costs", "bestLevels", "(I)I"⟩, 4, (some .int), 1087, 136, 1085, 1086, 1),
  (0, 0, ⟨"RouteStrides$Costs", "digitsBy", "(I)J"⟩, 7, (some .long), 1096, 136, 1094, 1095, 1),
  (1, 0, ⟨"RouteStrides$Fewest", "seek", "(LRouteStrides$Spans;)V"⟩, 2, none, 767, 135, 765, 766, 1),
  (1, 0, ⟨"RouteStrides$Fewest", "hasNone", "()Z"⟩, 2, (some .boolean), 799, 135, 797, 798, 0),
  (1, 0, ⟨"RouteStrides$Fewest", "part", "(LRouteStrides$Spans;JII)I"⟩, 14, (some .int), 771, 135, 770, 24, 4),
  (1, 0, ⟨"RouteStrides$Fewest", "hand", "(IJII)V"⟩, 7, none, 782, 135, 781, 25, 4),
  (1, 1, ⟨"RouteStrides$Fewest", "leastOf", "(J)I"⟩, 2, (some .int), 785, 135, 784, 0, 1),
  (1, 0, ⟨"RouteStrides$Fewest", "append", "(JII)V"⟩, 5, none, 795, 135, 794, 26, 3),
  (2, 0, ⟨"RouteStrides$Kinds", "find", "(LRouteStrides$Nodes;)V"⟩, 5, none, 995, 134, 993, 994, 1),
  (2, 0, ⟨"RouteStrides$Kinds", "kindOf", "(LRouteStrides$Nodes;I)I"⟩, 5, (some .int), 1007, 134, 1006, 38, 2),
  (2, 0, ⟨"RouteStrides$Kinds", "rowOf", "(LRouteStrides$Nodes;I)I"⟩, 8, (some .int), 1011, 134, 1010, 39, 2),
  (2, 0, ⟨"RouteStrides$Kinds", "leadToLike", "(LRouteStrides$Nodes;II)Z"⟩, 6, (some .boolean), 1025, 134, 1024, 41, 3),
  (2, 0, ⟨"RouteStrides$Kinds", "kindOfChild", "(LRouteStrides$Nodes;II)I"⟩, 5, (some .int), 1019, 134, 1018, 40, 3),
  (2, 0, ⟨"RouteStrides$Kinds", "unlikeIn", "(II)I"⟩, 5, (some .int), 1039, 134, 1037, 1038, 2),
  (3, 0, ⟨"RouteStrides$Nodes", "build", "(LRouteStrides$Table;LRouteStrides$Spans;)V"⟩, 7, none, 844, 133, 842, 843, 2),
  (3, 0, ⟨"RouteStrides$Nodes", "append", "(JIII)V"⟩, 6, none, 849, 133, 848, 30, 4),
  (3, 0, ⟨"RouteStrides$Nodes", "fill", "(IILRouteStrides$Spans;)V"⟩, 14, none, 853, 133, 852, 31, 3),
  (3, 0, ⟨"RouteStrides$Nodes", "store", "(II)V"⟩, 3, none, 858, 133, 857, 32, 2),
  (3, 0, ⟨"RouteStrides$Nodes", "has", "(I)Z"⟩, 2, (some .boolean), 869, 133, 867, 868, 1),
  (3, 0, ⟨"RouteStrides$Nodes", "startOfLevel", "(I)I"⟩, 2, (some .int), 1003, 133, 1001, 1002, 1),
  (3, 0, ⟨"RouteStrides$Nodes", "behindLevel", "(I)I"⟩, 2, (some .int), 999, 133, 997, 998, 1),
  (3, 0, ⟨"RouteStrides$Nodes", "slotsOf", "(I)I"⟩, 2, (some .int), 881, 133, 879, 880, 1),
  (3, 0, ⟨"RouteStrides$Nodes", "storedBy", "(I)I"⟩, 2, (some .int), 965, 133, 963, 964, 1),
  (3, 0, ⟨"RouteStrides$Nodes", "storedAt", "(II)I"⟩, 3, (some .int), 973, 133, 971, 972, 2),
  (3, 0, ⟨"RouteStrides$Nodes", "storedIn", "(II)I"⟩, 3, (some .int), 1035, 133, 1033, 1034, 2),
  (3, 0, ⟨"RouteStrides$Nodes", "childAt", "(II)I"⟩, 3, (some .int), 877, 133, 875, 876, 2),
  (3, 0, ⟨"RouteStrides$Nodes", "placeAt", "(II)I"⟩, 3, (some .int), 890, 133, 889, 34, 2),
  (3, 0, ⟨"RouteStrides$Nodes", "leafHop", "(II)I"⟩, 4, (some .int), 983, 133, 981, 982, 2),
  (3, 0, ⟨"RouteStrides$Nodes", "slotOf", "(JI)I"⟩, 4, (some .int), 873, 133, 872, 33, 2),
  (3, 0, ⟨"RouteStrides$Nodes", "goTo", "(J)I"⟩, 4, (some .int), 865, 133, 863, 864, 1),
  (3, 0, ⟨"RouteStrides$Nodes", "placeOf", "(J)I"⟩, 3, (some .int), 886, 133, 884, 885, 1),
  (3, 0, ⟨"RouteStrides$Nodes", "deepest", "()I"⟩, 1, (some .int), 1136, 133, 1134, 1135, 0),
  (3, 0, ⟨"RouteStrides$Nodes", "allSteps", "()J"⟩, 4, (some .long), 1109, 133, 1107, 1108, 0),
  (3, 0, ⟨"RouteStrides$Nodes", "isSame", "(ILRouteStrides$Nodes;I)Z"⟩, 8, (some .boolean), 915, 133, 913, 914, 3)]
def mts_1 : List xT := [(3, 0, ⟨"RouteStrides$Nodes", "othersThan", "(LRouteStrides$Nodes;)I"⟩, 7, (some .int), 907, 133, 905, 906, 1),
  (3, 0, ⟨"RouteStrides$Nodes", "orderOf", "(ILRouteStrides$Nodes;I)J"⟩, 5, (some .long), 911, 133, 910, 36, 3),
  (4, 0, ⟨"RouteStrides$Pieces", "cut", "(JJ)V"⟩, 8, none, 710, 137, 708, 709, 2),
  (4, 1, ⟨"RouteStrides$Pieces", "shortestAt", "(JJ)I"⟩, 5, (some .int), 713, 137, 712, 0, 2),
  (4, 0, ⟨"RouteStrides$Pieces", "tellOf", "(II)J"⟩, 3, (some .long), 1051, 137, 1049, 1050, 2),
  (5, 0, ⟨"RouteStrides$Spans", "survey", "(LRouteStrides$Table;)V"⟩, 3, none, 748, 132, 746, 747, 1),
  (5, 0, ⟨"RouteStrides$Spans", "innermost", "()I"⟩, 1, (some .int), 756, 132, 755, 22, 0),
  (5, 0, ⟨"RouteStrides$Spans", "closeAhead", "(JLRouteStrides$Table;)V"⟩, 7, none, 752, 132, 751, 21, 2),
  (5, 0, ⟨"RouteStrides$Spans", "emit", "(IJLRouteStrides$Table;)V"⟩, 7, none, 761, 132, 760, 23, 3),
  (5, 0, ⟨"RouteStrides$Spans", "spanWith", "(JI)I"⟩, 5, (some .int), 775, 132, 773, 774, 2),
  (5, 0, ⟨"RouteStrides$Spans", "idle", "(I)I"⟩, 4, (some .int), 1128, 132, 1126, 1127, 1),
  (5, 0, ⟨"RouteStrides$Spans", "addressesWith", "(I)J"⟩, 5, (some .long), 956, 132, 954, 955, 1),
  (5, 0, ⟨"RouteStrides$Spans", "differing", "(LRouteStrides$Spans;Z)J"⟩, 12, (some .long), 929, 132, 927, 928, 2),
  (6, 0, ⟨"RouteStrides$Table", "takeFirstStrides", "()V"⟩, 2, none, 184, 131, 183, 0, 0),
  (6, 0, ⟨"RouteStrides$Table", "clear", "()V"⟩, 2, none, 516, 131, 514, 515, 0),
  (6, 0, ⟨"RouteStrides$Table", "copyFrom", "(LRouteStrides$Table;)V"⟩, 3, none, 654, 131, 652, 653, 1),
  (6, 0, ⟨"RouteStrides$Table", "copyStrides", "(LRouteStrides$Table;)V"⟩, 3, none, 658, 131, 656, 657, 1),
  (6, 0, ⟨"RouteStrides$Table", "hasStridesOf", "(LRouteStrides$Table;)Z"⟩, 3, (some .boolean), 731, 131, 729, 730, 1),
  (6, 0, ⟨"RouteStrides$Table", "takeStrides", "(J)Z"⟩, 8, (some .boolean), 722, 131, 720, 721, 1),
  (6, 0, ⟨"RouteStrides$Table", "turnStrides", "()V"⟩, 4, none, 727, 131, 726, 18, 0),
  (6, 0, ⟨"RouteStrides$Table", "placeFor", "(JI)I"⟩, 5, (some .int), 569, 131, 567, 568, 2),
  (6, 0, ⟨"RouteStrides$Table", "find", "(JI)I"⟩, 5, (some .int), 565, 131, 563, 564, 2),
  (6, 0, ⟨"RouteStrides$Table", "hasHop", "(I)Z"⟩, 2, (some .boolean), 577, 131, 575, 576, 1),
  (6, 0, ⟨"RouteStrides$Table", "hops", "()I"⟩, 3, (some .int), 1124, 131, 1122, 1123, 0),
  (6, 0, ⟨"RouteStrides$Table", "keyOfRule", "(I)I"⟩, 3, (some .int), 573, 131, 571, 572, 1),
  (6, 0, ⟨"RouteStrides$Table", "ruleOf", "(J)I"⟩, 5, (some .int), 831, 131, 829, 830, 1),
  (6, 0, ⟨"RouteStrides$Table", "put", "(JII)I"⟩, 6, (some .int), 561, 131, 559, 560, 3),
  (6, 0, ⟨"RouteStrides$Table", "makeRoom", "(JI)I"⟩, 6, (some .int), 585, 131, 584, 9, 2),
  (6, 0, ⟨"RouteStrides$Table", "drop", "(I)V"⟩, 3, none, 702, 131, 700, 701, 1),
  (6, 0, ⟨"RouteStrides$Table", "release", "(I)V"⟩, 2, none, 581, 131, 580, 8, 1),
  (6, 0, ⟨"RouteStrides$Table", "takeHop", "(I)I"⟩, 4, (some .int), 589, 131, 588, 10, 1),
  (6, 0, ⟨"RouteStrides$Table", "hasRulesOf", "(LRouteStrides$Fewest;)Z"⟩, 3, (some .boolean), 803, 131, 801, 802, 1),
  (6, 0, ⟨"RouteStrides$Table", "takeRules", "(LRouteStrides$Fewest;)V"⟩, 4, none, 807, 131, 805, 806, 1),
  (7, 0, ⟨"RouteStrides$Tape", "hasRoom", "()Z"⟩, 1, (some .boolean), 496, 130, 494, 495, 0),
  (7, 0, ⟨"RouteStrides$Tape", "append", "(I)V"⟩, 3, none, 500, 130, 498, 499, 1),
  (7, 0, ⟨"RouteStrides$Tape", "readInto", "(LRouteStrides$Table;)I"⟩, 4, (some .int), 512, 130, 510, 511, 1),
  (7, 0, ⟨"RouteStrides$Tape", "readLine", "(LRouteStrides$Table;)V"⟩, 3, none, 520, 130, 519, 1, 1),
  (7, 0, ⟨"RouteStrides$Tape", "readRule", "(LRouteStrides$Table;)V"⟩, 8, none, 535, 130, 534, 4, 1),
  (7, 0, ⟨"RouteStrides$Tape", "readStrides", "(LRouteStrides$Table;)V"⟩, 7, none, 646, 130, 645, 12, 1),
  (7, 0, ⟨"RouteStrides$Tape", "readNumber", "(I)I"⟩, 5, (some .int), 547, 130, 546, 7, 1)]
def mts_2 : List xT := [(7, 0, ⟨"RouteStrides$Tape", "expect", "(C)V"⟩, 2, none, 539, 130, 538, 5, 1),
  (7, 0, ⟨"RouteStrides$Tape", "isStrides", "()Z"⟩, 2, (some .boolean), 593, 130, 592, 11, 0),
  (7, 0, ⟨"RouteStrides$Tape", "atEnd", "()Z"⟩, 1, (some .boolean), 650, 130, 649, 13, 0),
  (7, 0, ⟨"RouteStrides$Tape", "nextSign", "()I"⟩, 1, (some .int), 524, 130, 523, 2, 0),
  (7, 0, ⟨"RouteStrides$Tape", "signAt", "(I)I"⟩, 2, (some .int), 528, 130, 527, 3, 1),
  (7, 1, ⟨"RouteStrides$Tape", "isDigit", "(I)Z"⟩, 1, (some .boolean), 531, 130, 530, 0, 1),
  (7, 0, ⟨"RouteStrides$Tape", "fail", "(II)V"⟩, 3, none, 543, 130, 542, 6, 2),
  (8, 0, ⟨"RouteStrides", "feed", "(IIIII)I"⟩, 6, (some .int), 492, 129, 490, 491, 5),
  (8, 0, ⟨"RouteStrides", "end", "(I)I"⟩, 2, (some .int), 504, 129, 502, 503, 1),
  (8, 0, ⟨"RouteStrides", "tell", "()I"⟩, 2, (some .int), 508, 129, 506, 507, 0),
  (8, 0, ⟨"RouteStrides", "add", "(IIII)I"⟩, 7, (some .int), 667, 129, 665, 666, 4),
  (8, 0, ⟨"RouteStrides", "withdraw", "(II)I"⟩, 4, (some .int), 698, 129, 696, 697, 2),
  (8, 0, ⟨"RouteStrides", "range", "(IIII)I"⟩, 10, (some .int), 706, 129, 704, 705, 4),
  (8, 0, ⟨"RouteStrides", "strides", "(J)I"⟩, 3, (some .int), 718, 129, 716, 717, 1),
  (8, 0, ⟨"RouteStrides", "gather", "()I"⟩, 1, (some .int), 736, 129, 734, 735, 0),
  (8, 0, ⟨"RouteStrides", "undo", "()I"⟩, 1, (some .int), 811, 129, 809, 810, 0),
  (8, 0, ⟨"RouteStrides", "keep", "(I)I"⟩, 2, (some .int), 815, 129, 813, 814, 1),
  (8, 0, ⟨"RouteStrides", "back", "(I)I"⟩, 2, (some .int), 819, 129, 817, 818, 1),
  (8, 0, ⟨"RouteStrides", "look", "(II)I"⟩, 6, (some .int), 827, 129, 825, 826, 2),
  (8, 0, ⟨"RouteStrides", "path", "(II)I"⟩, 4, (some .int), 895, 129, 893, 894, 2),
  (8, 0, ⟨"RouteStrides", "would", "(IIII)I"⟩, 7, (some .int), 899, 129, 897, 898, 4),
  (8, 0, ⟨"RouteStrides", "within", "(III)I"⟩, 8, (some .int), 919, 129, 917, 918, 3),
  (8, 0, ⟨"RouteStrides", "differs", "(II)J"⟩, 3, (some .long), 924, 129, 922, 923, 2),
  (8, 0, ⟨"RouteStrides", "rule", "(II)I"⟩, 3, (some .int), 938, 129, 936, 937, 2),
  (8, 0, ⟨"RouteStrides", "served", "(I)J"⟩, 2, (some .long), 942, 129, 940, 941, 1),
  (8, 0, ⟨"RouteStrides", "hop", "(II)I"⟩, 3, (some .int), 946, 129, 944, 945, 2),
  (8, 0, ⟨"RouteStrides", "reach", "(I)J"⟩, 2, (some .long), 951, 129, 949, 950, 1),
  (8, 0, ⟨"RouteStrides", "node", "(II)J"⟩, 3, (some .long), 960, 129, 958, 959, 2),
  (8, 0, ⟨"RouteStrides", "stored", "(II)I"⟩, 3, (some .int), 969, 129, 967, 968, 2),
  (8, 0, ⟨"RouteStrides", "slot", "(III)I"⟩, 5, (some .int), 977, 129, 975, 976, 3),
  (8, 0, ⟨"RouteStrides", "alike", "(II)I"⟩, 3, (some .int), 987, 129, 985, 986, 2),
  (8, 0, ⟨"RouteStrides", "level", "(II)I"⟩, 3, (some .int), 1029, 129, 1027, 1028, 2),
  (8, 0, ⟨"RouteStrides", "span", "(II)J"⟩, 3, (some .long), 1043, 129, 1041, 1042, 2),
  (8, 0, ⟨"RouteStrides", "cover", "(IIII)J"⟩, 5, (some .long), 1047, 129, 1045, 1046, 4),
  (8, 0, ⟨"RouteStrides", "own", "(III)J"⟩, 6, (some .long), 1056, 129, 1054, 1055, 3),
  (8, 0, ⟨"RouteStrides", "best", "(II)J"⟩, 4, (some .long), 1060, 129, 1058, 1059, 2),
  (8, 0, ⟨"RouteStrides", "fewest", "(II)J"⟩, 3, (some .long), 1101, 129, 1099, 1100, 2),
  (8, 0, ⟨"RouteStrides", "steps", "()J"⟩, 1, (some .long), 1105, 129, 1103, 1104, 0),
  (8, 0, ⟨"RouteStrides", "count", "(I)I"⟩, 2, (some .int), 1120, 129, 1118, 1119, 1),
  (8, 1, ⟨"RouteStrides", "unsigned", "(I)J"⟩, 1, (some .long), 673, 129, 672, 0, 1)]
def mts_3 : List xT := [(8, 1, ⟨"RouteStrides", "widthOf", "(I)J"⟩, 1, (some .long), 553, 129, 552, 0, 1),
  (8, 1, ⟨"RouteStrides", "isBeginning", "(II)Z"⟩, 2, (some .boolean), 670, 129, 669, 0, 2),
  (8, 1, ⟨"RouteStrides", "isWay", "(II)Z"⟩, 2, (some .boolean), 678, 129, 677, 0, 2),
  (8, 1, ⟨"RouteStrides", "keyOf", "(II)I"⟩, 2, (some .int), 557, 129, 556, 0, 2),
  (8, 0, ⟨"RouteStrides", "stateOf", "(III)I"⟩, 5, (some .int), 683, 129, 682, 15, 3),
  (8, 0, ⟨"RouteStrides", "isKept", "(I)Z"⟩, 2, (some .boolean), 823, 129, 822, 27, 1),
  (8, 0, ⟨"RouteStrides", "lookAtRules", "(II)I"⟩, 4, (some .int), 836, 129, 835, 28, 2),
  (8, 0, ⟨"RouteStrides", "beginAct", "()V"⟩, 1, none, 689, 129, 688, 16, 0),
  (8, 0, ⟨"RouteStrides", "dropOldestAct", "()V"⟩, 3, none, 693, 129, 692, 17, 0),
  (8, 0, ⟨"RouteStrides", "forgetActs", "()V"⟩, 1, none, 662, 129, 661, 14, 0),
  (8, 0, ⟨"RouteStrides", "touchedByLastAct", "()I"⟩, 1, (some .int), 1132, 129, 1131, 45, 0),
  (8, 0, ⟨"RouteStrides", "touchedAgainst", "(LRouteStrides$Table;)I"⟩, 2, (some .int), 903, 129, 902, 35, 1),
  (8, 0, ⟨"RouteStrides", "seeSpans", "()V"⟩, 1, none, 744, 129, 743, 20, 0),
  (8, 0, ⟨"RouteStrides", "seeNodes", "()V"⟩, 1, none, 840, 129, 839, 29, 0),
  (8, 0, ⟨"RouteStrides", "seeKinds", "()V"⟩, 1, none, 991, 129, 990, 37, 0),
  (8, 0, ⟨"RouteStrides", "seeFewest", "()V"⟩, 1, none, 740, 129, 739, 19, 0),
  (8, 0, ⟨"RouteStrides", "seeCosts", "()V"⟩, 1, none, 1064, 129, 1063, 42, 0),
  (8, 1, ⟨"RouteStrides", "bitsOfMean", "(J)J"⟩, 7, (some .long), 1115, 129, 1114, 0, 1),
  (9, 1, ⟨"RouteStridesModel", "isIn", "(JJJ)Z"⟩, 6, (some .boolean), 1179, 138, 1178, 0, 3),
  (9, 0, ⟨"RouteStridesModel", "startsAnew", "()V"⟩, 2, none, 1147, 138, 1146, 46, 0),
  (9, 1, ⟨"RouteStridesModel", "unsigned", "(I)J"⟩, 1, (some .long), 1166, 138, 1165, 0, 1),
  (9, 1, ⟨"RouteStridesModel", "sizeOf", "(I)J"⟩, 1, (some .long), 1173, 138, 1172, 0, 1),
  (9, 1, ⟨"RouteStridesModel", "isBeginning", "(II)Z"⟩, 2, (some .boolean), 1378, 138, 1377, 0, 2),
  (9, 1, ⟨"RouteStridesModel", "isWay", "(II)Z"⟩, 2, (some .boolean), 1382, 138, 1381, 0, 2),
  (9, 0, ⟨"RouteStridesModel", "valueOf", "(I)J"⟩, 2, (some .long), 1396, 138, 1395, 56, 1),
  (9, 0, ⟨"RouteStridesModel", "find", "(JI)I"⟩, 5, (some .int), 1392, 138, 1391, 55, 2),
  (9, 0, ⟨"RouteStridesModel", "rulesOf", "(I)I"⟩, 4, (some .int), 1420, 138, 1419, 62, 1),
  (9, 0, ⟨"RouteStridesModel", "hopOf", "(I)I"⟩, 3, (some .int), 1428, 138, 1427, 64, 1),
  (9, 0, ⟨"RouteStridesModel", "hopFor", "(I)I"⟩, 3, (some .int), 1424, 138, 1423, 63, 1),
  (9, 0, ⟨"RouteStridesModel", "frees", "(I)V"⟩, 2, none, 1416, 138, 1415, 61, 1),
  (9, 0, ⟨"RouteStridesModel", "isAhead", "(IJI)Z"⟩, 5, (some .boolean), 1408, 138, 1407, 59, 3),
  (9, 0, ⟨"RouteStridesModel", "copies", "(II)V"⟩, 3, none, 1412, 138, 1411, 60, 2),
  (9, 0, ⟨"RouteStridesModel", "puts", "(JII)I"⟩, 7, (some .int), 1404, 138, 1403, 58, 3),
  (9, 0, ⟨"RouteStridesModel", "drops", "(I)V"⟩, 4, none, 1485, 138, 1484, 77, 1),
  (9, 0, ⟨"RouteStridesModel", "addsPlace", "(J)V"⟩, 5, none, 1159, 138, 1158, 49, 1),
  (9, 1, ⟨"RouteStridesModel", "firstOf", "([III)J"⟩, 3, (some .long), 1163, 138, 1162, 0, 3),
  (9, 1, ⟨"RouteStridesModel", "behindOf", "([III)J"⟩, 3, (some .long), 1170, 138, 1169, 0, 3),
  (9, 1, ⟨"RouteStridesModel", "ruleOf", "([IIJI)I"⟩, 7, (some .int), 1176, 138, 1175, 0, 4),
  (9, 0, ⟨"RouteStridesModel", "laysPlaces", "([II)V"⟩, 4, none, 1155, 138, 1154, 48, 2),
  (9, 1, ⟨"RouteStridesModel", "codeBy", "([III)I"⟩, 3, (some .int), 1182, 138, 1181, 0, 3)]
def mts_4 : List xT := [(9, 0, ⟨"RouteStridesModel", "laysTable", "(I[II)V"⟩, 7, none, 1151, 138, 1150, 47, 3),
  (9, 0, ⟨"RouteStridesModel", "behindRow", "(II)J"⟩, 3, (some .long), 1452, 138, 1451, 70, 2),
  (9, 0, ⟨"RouteStridesModel", "rowAt", "(IJ)I"⟩, 7, (some .int), 1448, 138, 1447, 69, 2),
  (9, 0, ⟨"RouteStridesModel", "isOne", "(IJJ)Z"⟩, 6, (some .boolean), 1444, 138, 1443, 68, 3),
  (9, 0, ⟨"RouteStridesModel", "codeAt", "(IJ)I"⟩, 4, (some .int), 1472, 138, 1471, 75, 2),
  (9, 0, ⟨"RouteStridesModel", "lengthAt", "(II)I"⟩, 3, (some .int), 1194, 138, 1193, 52, 2),
  (9, 0, ⟨"RouteStridesModel", "addsNode", "(IJ)V"⟩, 4, none, 1190, 138, 1189, 51, 2),
  (9, 0, ⟨"RouteStridesModel", "laysNodes", "()V"⟩, 9, none, 1186, 138, 1185, 50, 0),
  (9, 0, ⟨"RouteStridesModel", "hasNode", "(IIJ)Z"⟩, 7, (some .boolean), 1440, 138, 1439, 67, 3),
  (9, 0, ⟨"RouteStridesModel", "nodeAt", "(IJ)I"⟩, 9, (some .int), 1621, 138, 1620, 99, 2),
  (9, 0, ⟨"RouteStridesModel", "slotsAt", "(II)I"⟩, 3, (some .int), 1468, 138, 1467, 74, 2),
  (9, 0, ⟨"RouteStridesModel", "slotSize", "(II)J"⟩, 3, (some .long), 1464, 138, 1463, 73, 2),
  (9, 0, ⟨"RouteStridesModel", "reads", "(IIJ)V"⟩, 11, none, 1460, 138, 1459, 72, 3),
  (9, 0, ⟨"RouteStridesModel", "isUnlike", "(IJ)Z"⟩, 5, (some .boolean), 1456, 138, 1455, 71, 2),
  (9, 0, ⟨"RouteStridesModel", "othersNow", "()I"⟩, 3, (some .int), 1436, 138, 1435, 66, 0),
  (9, 0, ⟨"RouteStridesModel", "goneNow", "()I"⟩, 12, (some .int), 1476, 138, 1475, 76, 0),
  (9, 0, ⟨"RouteStridesModel", "keepsAct", "()V"⟩, 2, none, 1400, 138, 1399, 57, 0),
  (9, 0, ⟨"RouteStridesModel", "isDone", "()V"⟩, 1, none, 1432, 138, 1431, 65, 0),
  (9, 0, ⟨"RouteStridesModel", "isLaidAnew", "()V"⟩, 1, none, 1360, 138, 1359, 53, 0),
  (9, 0, ⟨"RouteStridesModel", "undo", "()I"⟩, 2, (some .int), 1356, 138, 1354, 1355, 0),
  (9, 1, ⟨"RouteStridesModel", "isShelf", "(I)Z"⟩, 1, (some .boolean), 1367, 138, 1366, 0, 1),
  (9, 0, ⟨"RouteStridesModel", "keep", "(I)I"⟩, 3, (some .int), 1364, 138, 1362, 1363, 1),
  (9, 0, ⟨"RouteStridesModel", "back", "(I)I"⟩, 3, (some .int), 1371, 138, 1369, 1370, 1),
  (9, 0, ⟨"RouteStridesModel", "hasIt", "(JII)Z"⟩, 6, (some .boolean), 1388, 138, 1387, 54, 3),
  (9, 0, ⟨"RouteStridesModel", "add", "(IIII)I"⟩, 7, (some .int), 1375, 138, 1373, 1374, 4),
  (9, 0, ⟨"RouteStridesModel", "withdraw", "(II)I"⟩, 4, (some .int), 1481, 138, 1479, 1480, 2),
  (9, 0, ⟨"RouteStridesModel", "would", "(IIII)I"⟩, 9, (some .int), 1489, 138, 1487, 1488, 4),
  (9, 0, ⟨"RouteStridesModel", "covers", "(II)Z"⟩, 8, (some .boolean), 1497, 138, 1496, 78, 2),
  (9, 0, ⟨"RouteStridesModel", "cover", "(IIII)J"⟩, 5, (some .long), 1493, 138, 1491, 1492, 4),
  (9, 0, ⟨"RouteStridesModel", "range", "(IIII)I"⟩, 10, (some .int), 1502, 138, 1500, 1501, 4),
  (9, 0, ⟨"RouteStridesModel", "addsStride", "(I)Z"⟩, 4, (some .boolean), 1515, 138, 1514, 80, 1),
  (9, 0, ⟨"RouteStridesModel", "strideSum", "()I"⟩, 3, (some .int), 1521, 138, 1520, 81, 0),
  (9, 0, ⟨"RouteStridesModel", "takesStrides", "()V"⟩, 2, none, 1529, 138, 1528, 83, 0),
  (9, 0, ⟨"RouteStridesModel", "readsDigits", "(J)Z"⟩, 7, (some .boolean), 1510, 138, 1509, 79, 1),
  (9, 0, ⟨"RouteStridesModel", "areStrides", "()Z"⟩, 3, (some .boolean), 1525, 138, 1524, 82, 0),
  (9, 0, ⟨"RouteStridesModel", "strides", "(J)I"⟩, 3, (some .int), 1506, 138, 1504, 1505, 1),
  (9, 0, ⟨"RouteStridesModel", "feed", "(IIIII)I"⟩, 8, (some .int), 1533, 138, 1531, 1532, 5),
  (9, 0, ⟨"RouteStridesModel", "end", "(I)I"⟩, 2, (some .int), 1537, 138, 1535, 1536, 1),
  (9, 0, ⟨"RouteStridesModel", "byteAt", "(I)I"⟩, 2, (some .int), 1558, 138, 1557, 87, 1),
  (9, 0, ⟨"RouteStridesModel", "next", "()I"⟩, 1, (some .int), 1554, 138, 1553, 86, 0)]
def mts_5 : List xT := [(9, 0, ⟨"RouteStridesModel", "isDigitNext", "()Z"⟩, 1, (some .boolean), 1574, 138, 1573, 90, 0),
  (9, 0, ⟨"RouteStridesModel", "fails", "(II)Z"⟩, 3, (some .boolean), 1580, 138, 1579, 91, 2),
  (9, 0, ⟨"RouteStridesModel", "readsNumber", "(II)Z"⟩, 5, (some .boolean), 1570, 138, 1569, 89, 2),
  (9, 0, ⟨"RouteStridesModel", "readsSign", "(C)Z"⟩, 2, (some .boolean), 1588, 138, 1587, 93, 1),
  (9, 0, ⟨"RouteStridesModel", "isStridesWord", "()Z"⟩, 4, (some .boolean), 1549, 138, 1548, 85, 0),
  (9, 0, ⟨"RouteStridesModel", "readsStrides", "()Z"⟩, 2, (some .boolean), 1566, 138, 1565, 88, 0),
  (9, 0, ⟨"RouteStridesModel", "readsRule", "()Z"⟩, 5, (some .boolean), 1584, 138, 1583, 92, 0),
  (9, 0, ⟨"RouteStridesModel", "readsText", "()Z"⟩, 3, (some .boolean), 1545, 138, 1544, 84, 0),
  (9, 0, ⟨"RouteStridesModel", "tell", "()I"⟩, 4, (some .int), 1541, 138, 1539, 1540, 0),
  (9, 0, ⟨"RouteStridesModel", "hopAt", "(J)I"⟩, 4, (some .int), 1597, 138, 1596, 94, 1),
  (9, 0, ⟨"RouteStridesModel", "through", "(J)I"⟩, 4, (some .int), 1601, 138, 1600, 95, 1),
  (9, 0, ⟨"RouteStridesModel", "hasChild", "(IJ)Z"⟩, 6, (some .boolean), 1605, 138, 1604, 96, 2),
  (9, 0, ⟨"RouteStridesModel", "storedPlace", "(J)I"⟩, 8, (some .int), 1609, 138, 1608, 97, 1),
  (9, 0, ⟨"RouteStridesModel", "hopWithout", "(J)I"⟩, 5, (some .int), 1613, 138, 1612, 98, 1),
  (9, 0, ⟨"RouteStridesModel", "look", "(II)I"⟩, 5, (some .int), 1593, 138, 1591, 1592, 2),
  (9, 0, ⟨"RouteStridesModel", "path", "(II)I"⟩, 3, (some .int), 1617, 138, 1615, 1616, 2),
  (9, 0, ⟨"RouteStridesModel", "within", "(III)I"⟩, 6, (some .int), 1625, 138, 1623, 1624, 3),
  (9, 0, ⟨"RouteStridesModel", "differs", "(II)J"⟩, 13, (some .long), 1629, 138, 1627, 1628, 2),
  (9, 0, ⟨"RouteStridesModel", "servedBy", "(I)J"⟩, 5, (some .long), 1641, 138, 1640, 101, 1),
  (9, 0, ⟨"RouteStridesModel", "parentOf", "(I)I"⟩, 4, (some .int), 1645, 138, 1644, 102, 1),
  (9, 0, ⟨"RouteStridesModel", "isRule", "(I)Z"⟩, 2, (some .boolean), 1637, 138, 1636, 100, 1),
  (9, 0, ⟨"RouteStridesModel", "rule", "(II)I"⟩, 3, (some .int), 1633, 138, 1631, 1632, 2),
  (9, 0, ⟨"RouteStridesModel", "served", "(I)J"⟩, 2, (some .long), 1649, 138, 1647, 1648, 1),
  (9, 0, ⟨"RouteStridesModel", "isHop", "(I)Z"⟩, 2, (some .boolean), 1657, 138, 1656, 103, 1),
  (9, 0, ⟨"RouteStridesModel", "hop", "(II)I"⟩, 3, (some .int), 1653, 138, 1651, 1652, 2),
  (9, 0, ⟨"RouteStridesModel", "reach", "(I)J"⟩, 6, (some .long), 1662, 138, 1660, 1661, 1),
  (9, 0, ⟨"RouteStridesModel", "isNode", "(I)Z"⟩, 2, (some .boolean), 1670, 138, 1669, 104, 1),
  (9, 0, ⟨"RouteStridesModel", "parentNode", "(I)I"⟩, 2, (some .int), 1675, 138, 1674, 105, 1),
  (9, 0, ⟨"RouteStridesModel", "node", "(II)J"⟩, 3, (some .long), 1666, 138, 1664, 1665, 2),
  (9, 0, ⟨"RouteStridesModel", "hopBy", "(I)I"⟩, 2, (some .int), 1683, 138, 1682, 106, 1),
  (9, 0, ⟨"RouteStridesModel", "stored", "(II)I"⟩, 3, (some .int), 1679, 138, 1677, 1678, 2),
  (9, 0, ⟨"RouteStridesModel", "slotFirst", "(II)J"⟩, 3, (some .long), 1695, 138, 1694, 108, 2),
  (9, 0, ⟨"RouteStridesModel", "leads", "(II)Z"⟩, 3, (some .boolean), 1691, 138, 1690, 107, 2),
  (9, 0, ⟨"RouteStridesModel", "slot", "(III)I"⟩, 5, (some .int), 1687, 138, 1685, 1686, 3),
  (9, 0, ⟨"RouteStridesModel", "laysKinds", "(I)V"⟩, 7, none, 1707, 138, 1706, 110, 1),
  (9, 0, ⟨"RouteStridesModel", "areLike", "(II)Z"⟩, 4, (some .boolean), 1711, 138, 1710, 111, 2),
  (9, 0, ⟨"RouteStridesModel", "laysClasses", "()V"⟩, 4, none, 1703, 138, 1702, 109, 0),
  (9, 0, ⟨"RouteStridesModel", "alike", "(II)I"⟩, 3, (some .int), 1699, 138, 1697, 1698, 2),
  (9, 0, ⟨"RouteStridesModel", "storedAt", "(I)I"⟩, 4, (some .int), 1719, 138, 1718, 112, 1),
  (9, 0, ⟨"RouteStridesModel", "unlikeAt", "(I)I"⟩, 4, (some .int), 1723, 138, 1722, 113, 1)]
def mts_6 : List xT := [(9, 0, ⟨"RouteStridesModel", "level", "(II)I"⟩, 3, (some .int), 1715, 138, 1713, 1714, 2),
  (9, 0, ⟨"RouteStridesModel", "span", "(II)J"⟩, 3, (some .long), 1727, 138, 1725, 1726, 2),
  (9, 0, ⟨"RouteStridesModel", "steps", "()J"⟩, 4, (some .long), 1731, 138, 1729, 1730, 0),
  (9, 0, ⟨"RouteStridesModel", "ownSet", "(J)J"⟩, 3, (some .long), 1762, 138, 1761, 117, 1),
  (9, 0, ⟨"RouteStridesModel", "setOf", "(JI)J"⟩, 8, (some .long), 1758, 138, 1757, 116, 2),
  (9, 1, ⟨"RouteStridesModel", "leastOf", "(J)I"⟩, 3, (some .int), 1765, 138, 1764, 0, 1),
  (9, 0, ⟨"RouteStridesModel", "hands", "(JII)V"⟩, 8, none, 1754, 138, 1753, 115, 3),
  (9, 0, ⟨"RouteStridesModel", "laysFewest", "()V"⟩, 1, none, 1750, 138, 1749, 114, 0),
  (9, 0, ⟨"RouteStridesModel", "fewest", "(II)J"⟩, 3, (some .long), 1746, 138, 1744, 1745, 2),
  (9, 0, ⟨"RouteStridesModel", "areFewest", "()Z"⟩, 3, (some .boolean), 1773, 138, 1772, 118, 0),
  (9, 0, ⟨"RouteStridesModel", "gather", "()I"⟩, 2, (some .int), 1769, 138, 1767, 1768, 0),
  (9, 0, ⟨"RouteStridesModel", "ownAt", "(III)J"⟩, 7, (some .long), 1781, 138, 1780, 119, 3),
  (9, 0, ⟨"RouteStridesModel", "own", "(III)J"⟩, 6, (some .long), 1777, 138, 1775, 1776, 3),
  (9, 0, ⟨"RouteStridesModel", "nodesOf", "(I)I"⟩, 10, (some .int), 1795, 138, 1794, 121, 1),
  (9, 0, ⟨"RouteStridesModel", "slotsIf", "(III)I"⟩, 5, (some .int), 1800, 138, 1799, 122, 3),
  (9, 0, ⟨"RouteStridesModel", "laysSlots", "()V"⟩, 5, none, 1791, 138, 1790, 120, 0),
  (9, 0, ⟨"RouteStridesModel", "stridesOf", "(I)J"⟩, 7, (some .long), 1804, 138, 1803, 123, 1),
  (9, 0, ⟨"RouteStridesModel", "best", "(II)J"⟩, 5, (some .long), 1786, 138, 1784, 1785, 2),
  (9, 0, ⟨"RouteStridesModel", "hops", "()I"⟩, 3, (some .int), 1812, 138, 1811, 124, 0),
  (9, 0, ⟨"RouteStridesModel", "idle", "()I"⟩, 3, (some .int), 1821, 138, 1820, 126, 0),
  (9, 0, ⟨"RouteStridesModel", "allLevels", "(I)I"⟩, 4, (some .int), 1816, 138, 1815, 125, 1),
  (9, 0, ⟨"RouteStridesModel", "keptSet", "()I"⟩, 3, (some .int), 1825, 138, 1824, 127, 0),
  (9, 0, ⟨"RouteStridesModel", "count", "(I)I"⟩, 2, (some .int), 1808, 138, 1806, 1807, 1),
  (10, 1, ⟨"RouteStridesLaw", "law", "([I)Z"⟩, 4, (some .boolean), 0, 0, 0, 0, 1)]
def mts : List xT := mts_0 ++ mts_1 ++ mts_2 ++ mts_3 ++ mts_4 ++ mts_5 ++ mts_6
def fls : List (Nat × Nat × Nat × Nat × Nat) := [(0, 9, 0, 0, 411), (0, 17, 0, 1, 412), (0, 36, 5, 0, 236), (0, 42, 5, 1, 239), (1, 9, 1, 1, 376), (1, 15, 1, 2, 379), (1, 19, 1, 3, 382), (1, 22, 1, 4, 385), (1, 25, 1, 5, 386), (1, 28, 1, 6, 387), (1, 32, 1, 0, 373), (1, 53, 5, 3, 246), (1, 54, 5, 2, 242), (2, 9, 2, 0, 356), (2, 15, 2, 1, 358), (2, 18, 2, 2, 359), (2, 45, 3, 3, 292), (2, 51, 3, 4, 295), (2, 71, 3, 6, 300), (3, 9, 3, 1, 287), (3, 15, 3, 2, 289), (3, 19, 3, 3, 291), (3, 22, 3, 4, 294), (3, 25, 3, 5, 297), (3, 28, 3, 6, 299), (3, 31, 3, 7, 301), (3, 34, 3, 8, 303), (3, 37, 3, 9, 304), (3, 40, 3, 10, 305), (3, 43, 3, 11, 306), (3, 46, 3, 12, 307), (3, 49, 3, 13, 308), (3, 52, 3, 14, 309), (3, 55, 6, 6, 202), (3, 67, 3, 15, 310), (3, 68, 6, 7, 207), (3, 69, 3, 0, 285), (3, 72, 3, 16, 311), (3, 89, 5, 2, 243), (3, 92, 5, 3, 247), (3, 95, 5, 4, 250), (3, 124, 3, 17, 312), (4, 9, 4, 1, 426), (4, 15, 4, 2, 428), (4, 19, 4, 0, 424), (5, 9, 5, 1, 238), (5, 15, 5, 2, 241), (5, 18, 5, 3, 245), (5, 22, 5, 4, 249), (5, 25, 5, 5, 251), (5, 28, 5, 6, 253), (5, 31, 5, 7, 255), (5, 34, 5, 0, 235), (5, 38, 5, 8, 256), (5, 41, 5, 9, 257), (5, 45, 6, 0, 185), (5, 50, 6, 1, 189), (5, 69, 6, 2, 192), (5, 76, 6, 3, 195), (5, 77, 6, 4, 198), (6, 9, 6, 1, 188), (6, 15, 6, 2, 191), (6, 19, 6, 3, 194), (6, 22, 6, 4, 197), (6, 25, 6, 5, 200), (6, 28, 6, 7, 206), (6, 34, 6, 6, 203), (6, 38, 6, 0, 186), (6, 79, 1, 0, 374), (6, 84, 1, 1, 377), (6, 85, 1, 2, 380), (6, 86, 1, 3, 383), (7, 11, 7, 1, 162), (7, 15, 7, 0, 160), (7, 24, 7, 2, 163), (7, 27, 7, 3, 164), (7, 86, 6, 7, 208), (7, 89, 6, 6, 204), (8, 12, 8, 0, 437), (8, 19, 8, 1, 438), (8, 23, 8, 2, 439), (8, 26, 8, 3, 440), (8, 30, 8, 4, 441), (8, 36, 8, 9, 446), (8, 40, 8, 10, 447), (8, 46, 8, 11, 448), (8, 50, 8, 12, 449), (8, 56, 8, 13, 450), (8, 63, 8, 14, 451), (8, 70, 8, 15, 452), (8, 77, 8, 16, 453), (8, 89, 7, 0, 161), (8, 104, 6, 0, 187), (8, 144, 4, 0, 425), (8, 145, 4, 1, 427), (8, 149, 4, 2, 429), (8, 168, 6, 6, 205), (8, 185, 8, 5, 442), (8, 188, 8, 7, 444), (8, 191, 8, 8, 445), (8, 194, 8, 6, 443), (8, 217, 3, 7, 302), (8, 241, 6, 1, 190), (8, 242, 6, 2, 193), (8, 243, 6, 3, 196), (8, 246, 5, 5, 252), (8, 249, 5, 6, 254), (8, 255, 6, 4, 199), (8, 258, 6, 5, 201), (8, 269, 3, 3, 293), (8, 272, 3, 4, 296), (8, 275, 3, 2, 290), (8, 278, 3, 1, 288), (8, 282, 3, 5, 298), (8, 300, 2, 0, 357), (8, 303, 6, 7, 209), (8, 318, 5, 0, 237), (8, 319, 5, 1, 240), (8, 322, 5, 2, 244), (8, 325, 5, 3, 248), (8, 342, 1, 0, 375), (8, 343, 1, 2, 381), (8, 344, 1, 1, 378), (8, 345, 1, 3, 384), (8, 358, 3, 0, 286), (9, 7, 9, 0, 1195), (9, 13, 9, 1, 1196), (9, 16, 9, 3, 1198), (9, 19, 9, 4, 1199), (9, 23, 9, 6, 1201), (9, 26, 9, 7, 1202), (9, 30, 9, 8, 1203), (9, 33, 9, 9, 1204), (9, 36, 9, 10, 1205), (9, 39, 9, 11, 1206), (9, 42, 9, 13, 1208), (9, 45, 9, 14, 1209), (9, 48, 9, 16, 1211), (9, 51, 9, 17, 1212), (9, 54, 9, 18, 1213), (9, 57, 9, 23, 1218), (9, 60, 9, 27, 1222), (9, 63, 9, 28, 1223), (9, 66, 9, 30, 1225), (9, 69, 9, 31, 1226), (9, 72, 9, 33, 1228), (9, 75, 9, 34, 1229), (9, 79, 9, 41, 1236), (9, 82, 9, 42, 1237), (9, 85, 9, 43, 1238), (9, 88, 9, 44, 1239), (9, 92, 9, 45, 1240), (9, 95, 9, 47, 1242), (9, 98, 9, 48, 1243), (9, 101, 9, 49, 1244), (9, 104, 9, 50, 1245), (9, 107, 9, 51, 1246), (9, 167, 9, 12, 1207), (9, 205, 9, 15, 1210), (9, 208, 9, 19, 1214), (9, 224, 9, 20, 1215), (9, 228, 9, 21, 1216), (9, 231, 9, 22, 1217), (9, 247, 9, 24, 1219), (9, 250, 9, 25, 1220), (9, 253, 9, 26, 1221), (9, 266, 9, 2, 1197), (9, 276, 9, 5, 1200), (9, 310, 9, 29, 1224), (9, 318, 9, 32, 1227), (9, 344, 9, 35, 1230), (9, 347, 9, 36, 1231), (9, 360, 9, 37, 1232), (9, 366, 9, 39, 1234), (9, 372, 9, 38, 1233), (9, 399, 9, 40, 1235), (9, 498, 9, 46, 1241)]
def mls : List (Nat × Nat × Nat × Nat × Nat) := [(0, 20, 2, 0, 1069), (0, 26, 4, 0, 1075), (0, 32, 120, 1, 1073), (0, 45, 3, 0, 1079), (0, 55, 5, 0, 1088), (1, 35, 10, 0, 768), (1, 39, 11, 0, 779), (1, 43, 49, 0, 772), (1, 49, 120, 1, 777), (1, 59, 12, 0, 783), (1, 63, 13, 0, 792), (1, 67, 0, 0, 786), (2, 21, 26, 0, 996), (2, 27, 25, 0, 1000), (2, 30, 15, 0, 1004), (2, 34, 16, 0, 1008), (2, 37, 39, 0, 1021), (2, 41, 17, 0, 1022), (2, 54, 28, 0, 1013), (2, 57, 29, 0, 1014), (2, 61, 0, 0, 1015), (2, 67, 18, 0, 1016), (2, 74, 24, 0, 1020), (3, 75, 21, 0, 846), (3, 79, 22, 0, 850), (3, 83, 49, 0, 854), (3, 98, 23, 0, 855), (3, 105, 24, 0, 866), (3, 109, 27, 0, 878), (3, 113, 0, 0, 882), (3, 121, 32, 0, 887), (3, 127, 34, 0, 870), (3, 130, 31, 0, 874), (3, 133, 26, 0, 1110), (3, 136, 25, 0, 1111), (3, 139, 120, 1, 1112), (3, 143, 41, 0, 908), (3, 147, 39, 0, 912), (4, 23, 43, 0, 711), (4, 27, 120, 1, 714), (5, 53, 47, 0, 749), (5, 57, 46, 0, 753), (5, 61, 48, 0, 758), (5, 72, 120, 1, 757), (6, 31, 53, 0, 181), (6, 41, 56, 0, 655), (6, 47, 59, 0, 724), (6, 50, 60, 0, 566), (6, 54, 62, 0, 574), (6, 58, 120, 1, 832), (6, 62, 61, 0, 562), (6, 65, 64, 0, 570), (6, 69, 69, 0, 578), (6, 73, 67, 0, 582), (6, 76, 70, 0, 586), (7, 19, 54, 0, 513), (7, 30, 76, 0, 517), (7, 34, 82, 0, 647), (7, 38, 80, 0, 536), (7, 42, 83, 0, 521), (7, 46, 85, 0, 529), (7, 50, 77, 0, 532), (7, 53, 81, 0, 590), (7, 63, 78, 0, 643), (7, 66, 86, 0, 540), (7, 70, 79, 0, 544), (7, 74, 120, 1, 551), (7, 78, 123, 1, 555), (7, 82, 66, 0, 558), (7, 92, 84, 0, 525), (8, 81, 73, 0, 493), (8, 85, 74, 0, 497), (8, 93, 75, 0, 509), (8, 97, 55, 0, 651), (8, 101, 129, 0, 659), (8, 107, 121, 0, 668), (8, 111, 122, 0, 676), (8, 114, 123, 0, 679), (8, 118, 124, 0, 680), (8, 122, 127, 0, 686), (8, 125, 119, 0, 671), (8, 129, 66, 0, 694), (8, 133, 61, 0, 684), (8, 137, 68, 0, 699), (8, 140, 42, 0, 707), (8, 153, 64, 0, 685), (8, 157, 58, 0, 719), (8, 161, 57, 0, 728), (8, 165, 56, 0, 732), (8, 171, 135, 0, 737), (8, 174, 9, 0, 796), (8, 177, 71, 0, 800), (8, 181, 72, 0, 804), (8, 197, 125, 0, 820), (8, 201, 65, 0, 828), (8, 205, 126, 0, 833), (8, 208, 133, 0, 837), (8, 211, 35, 0, 862), (8, 214, 36, 0, 883), (8, 220, 131, 0, 900), (8, 223, 60, 0, 920), (8, 226, 120, 0, 675), (8, 231, 132, 0, 741), (8, 234, 45, 0, 745), (8, 237, 52, 0, 926), (8, 252, 62, 0, 947), (8, 263, 51, 0, 953), (8, 266, 24, 0, 961), (8, 279, 28, 0, 962), (8, 285, 29, 0, 970), (8, 288, 27, 0, 978), (8, 291, 31, 0, 979), (8, 294, 33, 0, 980), (8, 297, 134, 0, 988), (8, 306, 26, 0, 1030), (8, 309, 25, 0, 1031), (8, 312, 30, 0, 1032), (8, 315, 19, 0, 1036), (8, 326, 44, 0, 1048), (8, 330, 136, 0, 1061), (8, 333, 6, 0, 1084), (8, 336, 5, 0, 1092), (8, 339, 7, 0, 1093), (8, 346, 38, 0, 1106), (8, 350, 137, 0, 1113), (8, 354, 63, 0, 1121), (8, 359, 50, 0, 1125), (8, 362, 130, 0, 1129), (8, 365, 37, 0, 1133), (8, 372, 128, 0, 690), (8, 375, 20, 0, 841), (8, 379, 40, 0, 904), (8, 383, 14, 0, 992), (8, 386, 8, 0, 764), (8, 390, 1, 0, 1065), (9, 110, 139, 0, 1144), (9, 113, 160, 0, 1148), (9, 121, 138, 0, 1177), (9, 125, 140, 0, 1164), (9, 129, 141, 0, 1171), (9, 136, 144, 0, 1393), (9, 139, 147, 0, 1425), (9, 143, 146, 0, 1417), (9, 146, 145, 0, 1389), (9, 150, 150, 0, 1405), (9, 154, 151, 0, 1409), (9, 158, 149, 0, 1413), (9, 162, 148, 0, 1421), (9, 171, 155, 0, 1161), (9, 175, 156, 0, 1168), (9, 178, 154, 0, 1156), (9, 182, 157, 0, 1174), (9, 186, 158, 0, 1152), (9, 190, 159, 0, 1180), (9, 194, 167, 0, 1183), (9, 197, 162, 0, 1445), (9, 201, 161, 0, 1449), (9, 212, 166, 0, 1187), (9, 216, 165, 0, 1191), (9, 220, 163, 0, 1441), (9, 234, 171, 0, 1461), (9, 237, 170, 0, 1465), (9, 240, 164, 0, 1469), (9, 243, 172, 0, 1457), (9, 256, 168, 0, 1437), (9, 260, 173, 0, 1453), (9, 269, 174, 0, 1433), (9, 273, 175, 0, 1473), (9, 279, 178, 0, 1357), (9, 282, 180, 0, 1365), (9, 286, 142, 0, 1376), (9, 290, 143, 0, 1380), (9, 293, 183, 0, 1385), (9, 297, 176, 0, 1397), (9, 300, 152, 0, 1401), (9, 304, 177, 0, 1429), (9, 307, 153, 0, 1482), (9, 313, 187, 0, 1494), (9, 327, 190, 0, 1512), (9, 330, 191, 0, 1518), (9, 333, 193, 0, 1507), (9, 337, 194, 0, 1522), (9, 341, 192, 0, 1526), (9, 350, 198, 0, 1555), (9, 353, 199, 0, 1551), (9, 363, 200, 0, 1571), (9, 369, 201, 0, 1577), (9, 390, 202, 0, 1567), (9, 393, 203, 0, 1585), (9, 402, 204, 0, 1546), (9, 405, 205, 0, 1563), (9, 408, 206, 0, 1581), (9, 411, 207, 0, 1542), (9, 414, 211, 0, 1602), (9, 417, 210, 0, 1598), (9, 421, 209, 0, 1594), (9, 424, 212, 0, 1606), (9, 427, 213, 0, 1610), (9, 430, 169, 0, 1618), (9, 433, 220, 0, 1634), (9, 436, 218, 0, 1638), (9, 439, 219, 0, 1642), (9, 444, 223, 0, 1654), (9, 447, 226, 0, 1667), (9, 452, 227, 0, 1672), (9, 455, 229, 0, 1680), (9, 458, 231, 0, 1692), (9, 461, 232, 0, 1688), (9, 464, 234, 0, 1704), (9, 467, 235, 0, 1708), (9, 470, 236, 0, 1700), (9, 473, 238, 0, 1716), (9, 476, 239, 0, 1720), (9, 487, 243, 0, 1759), (9, 491, 244, 0, 1755), (9, 495, 245, 0, 1763), (9, 501, 246, 0, 1751), (9, 505, 247, 0, 1747), (9, 508, 249, 0, 1770), (9, 511, 251, 0, 1778), (9, 518, 253, 0, 1792), (9, 521, 254, 0, 1797), (9, 527, 255, 0, 1788), (9, 530, 256, 0, 1801), (9, 533, 240, 0, 1817), (9, 536, 258, 0, 1809), (9, 539, 260, 0, 1813), (9, 542, 259, 0, 1818), (9, 545, 261, 0, 1822), (10, 13, 87, 0, 489), (10, 17, 196, 0, 1530), (10, 18, 88, 0, 501), (10, 22, 197, 0, 1534), (10, 23, 89, 0, 505), (10, 27, 208, 0, 1538), (10, 28, 90, 0, 664), (10, 32, 184, 0, 1372), (10, 33, 91, 0, 695), (10, 37, 185, 0, 1478), (10, 38, 92, 0, 703), (10, 41, 189, 0, 1499), (10, 44, 93, 0, 715), (10, 48, 195, 0, 1503), (10, 49, 94, 0, 733), (10, 52, 250, 0, 1766), (10, 53, 95, 0, 808), (10, 56, 179, 0, 1353), (10, 57, 96, 0, 812), (10, 60, 181, 0, 1361), (10, 61, 97, 0, 816), (10, 64, 182, 0, 1368), (10, 65, 98, 0, 824), (10, 68, 214, 0, 1590), (10, 69, 99, 0, 892), (10, 72, 215, 0, 1614), (10, 73, 100, 0, 896), (10, 76, 186, 0, 1486), (10, 77, 101, 0, 916), (10, 81, 216, 0, 1622), (10, 82, 102, 0, 921), (10, 86, 217, 0, 1626), (10, 87, 103, 0, 935), (10, 90, 221, 0, 1630), (10, 91, 104, 0, 939), (10, 95, 222, 0, 1646), (10, 96, 105, 0, 943), (10, 99, 224, 0, 1650), (10, 100, 106, 0, 948), (10, 103, 225, 0, 1659), (10, 104, 107, 0, 957), (10, 107, 228, 0, 1663), (10, 108, 108, 0, 966), (10, 111, 230, 0, 1676), (10, 112, 109, 0, 974), (10, 115, 233, 0, 1684), (10, 116, 110, 0, 984), (10, 119, 237, 0, 1696), (10, 120, 111, 0, 1026), (10, 123, 240, 0, 1712), (10, 124, 112, 0, 1040), (10, 127, 241, 0, 1724), (10, 128, 113, 0, 1044), (10, 132, 188, 0, 1490), (10, 133, 114, 0, 1053), (10, 137, 252, 0, 1774), (10, 138, 115, 0, 1057), (10, 141, 257, 0, 1783), (10, 142, 116, 0, 1098), (10, 145, 248, 0, 1743), (10, 146, 117, 0, 1102), (10, 150, 242, 0, 1728), (10, 151, 118, 0, 1117), (10, 154, 262, 0, 1805)]
def cls_ : List (Nat × Nat × Nat × Int × Nat) := [(0, 24, 1, 1152921504606846976, 1074), (0, 30, 1, (-1), 1072), (0, 58, 1, 10, 1097), (1, 57, 1, 2, 778), (2, 49, 1, 31, 1012), (3, 119, 1, 2, 891), (4, 31, 1, (-2), 1052), (5, 65, 1, 4294967296, 762), (5, 67, 1, 4294967295, 763), (5, 92, 1, (-2), 934), (6, 45, 1, 10, 723), (8, 229, 1, (-1), 925), (8, 261, 1, (-2), 952), (8, 368, 1, 4294967295, 674), (8, 370, 1, 4294967296, 554), (8, 393, 1, 4503599627370495, 1116), (9, 91, 0, 128000, 1143), (9, 117, 1, 4294967295, 1167), (9, 119, 1, 32, 1379), (9, 132, 1, 99, 1383), (9, 134, 1, 9, 1384), (9, 165, 1, 4294967296, 1160), (9, 264, 1, (-1), 1477), (9, 316, 1, (-2), 1498), (9, 321, 1, 2, 1516), (9, 323, 1, 6, 1517), (9, 325, 1, 10, 1511), (9, 356, 1, 48, 1575), (9, 358, 1, 57, 1576), (9, 386, 1, 97, 1561), (9, 388, 1, 122, 1562), (9, 397, 1, 256, 1589), (9, 442, 1, 60, 1658), (9, 450, 1, 5, 1671), (9, 515, 1, (-3), 1782), (9, 517, 0, 1000000000, 1796), (9, 525, 1, 16, 1787), (10, 42, 1, 4294967295, 1826), (12, 314, 1, 6148914691236517205, 789), (12, 316, 1, 3689348814741910323, 790), (12, 318, 1, 1085102592571150095, 791), (9, 479, 2, 4751297606875873280, 1732)]
/-- the name of a class by its number -/
def xcn (i : Nat) : String := xcns.getD i ""
def xfld (ci k : Nat) : Nat × Nat × Int := (xfs.getD ci []).getD k (9, 0, 0)
def xfokB (q : Nat × Nat × Nat × Nat × Nat) : Bool := match xcl[q.2.2.1]? with
  | some (C, T, n) => Nat.blt q.2.2.2.1 n && (decide ((T q.2.2.2.1).1 = C) && decide (lw_tbl[q.2.2.2.2]? = some (Cond.fieldLink (xcn q.1) q.2.1 (T q.2.2.2.1).1 (T q.2.2.2.1).2.1 (T q.2.2.2.1).2.2.1)))
  | none => false
theorem fls_ok : fls.all xfokB = true := by decide +kernel
/-- the words that stay good along calls -/
def xTT : List Cond := lw_tbl.filter goodWord
theorem tt_mem {w : Cond} {i : Nat} (h : lw_tbl[i]? = some w) (g : goodWord w = true) : w ∈ xTT := List.mem_filter.mpr ⟨List.mem_of_getElem? h, g⟩
theorem tt_good : GoodIn xTT xTT := fun w h => ⟨h, good_of_word (List.mem_filter.mp h).2⟩
theorem tt_tbl {w : Cond} (h : w ∈ xTT) : w ∈ lw_tbl := (List.mem_filter.mp h).1
/-- a method's code, out of its word -/
def xbyt (pos : Nat) : ByteArray := match lw_tbl[pos]? with
  | some (.code _ b _ _) => b
  | _ => .empty
def xtok (q : xT) : Bool := match q with
  | (own, st, y, maxL, ret, pc, pi, pk, ps, np) => decide (xcn own = y.cls) && ((match lw_tbl[pc]? with
    | some (.code y2 _ m2 r2) => decide (y2 = y) && (decide (m2 = maxL) && decide (r2 = ret))
    | _ => false) && (decide (lw_tbl[pi]? = some (Cond.initialized y.cls)) && ((match st with
    | 0 => decide (lw_tbl[pk]? = some (Cond.instanceMethod y)) && decide (lw_tbl[ps]? = some (Cond.selects y.cls y y))
    | _ => decide (lw_tbl[pk]? = some (Cond.static y))) && (plainName y.cls && (decide (y.cls ≠ "java/lang/invoke/MethodHandle") && (decide (y.cls ≠ "java/lang/invoke/VarHandle") && decide ((parseMethodDescriptor y.desc).map (fun d => d.parameters.length) = some np)))))))

theorem mts_ok_0 : mts_0.all xtok = true := by decide +kernel
theorem mts_ok_1 : mts_1.all xtok = true := by decide +kernel
theorem mts_ok_2 : mts_2.all xtok = true := by decide +kernel
theorem mts_ok_3 : mts_3.all xtok = true := by decide +kernel
theorem mts_ok_4 : mts_4.all xtok = true := by decide +kernel
theorem mts_ok_5 : mts_5.all xtok = true := by decide +kernel
theorem mts_ok_6 : (mts_6.dropLast).all xtok = true := by decide +kernel
def xmok (q : Nat × Nat × Nat × Nat × Nat) : Bool := match q with
  | (own, idx, k, nest, pos) => match mts[k]? with
    | some t => match nest with
      | 0 => decide (lw_tbl[pos]? = some (Cond.methodLink (xcn own) idx t.2.2.1))
      | _ => decide (lw_tbl[pos]? = some (Cond.methodLinkNest (xcn own) idx t.2.2.1 "RouteStrides"))
    | none => false
theorem mls_ok : mls.all xmok = true := by decide +kernel
def xcok (q : Nat × Nat × Nat × Int × Nat) : Bool := match q with
  | (own, idx, kind, v, pos) => match kind with
    | 0 => decide (-2147483648 ≤ v) && (decide (v < 2147483648) && decide (lw_tbl[pos]? = some (Cond.constant (xcn own) idx (Int32.ofInt v))))
    | 1 => decide (-9223372036854775808 ≤ v) && (decide (v < 9223372036854775808) && decide (lw_tbl[pos]? = some (Cond.constantLong (xcn own) idx (Int64.ofInt v))))
    | _ => decide (0 ≤ v) && (decide (v < 18446744073709551616) && decide (lw_tbl[pos]? = some (Cond.constantDouble (xcn own) idx (UInt64.ofNat v.toNat))))
theorem cls_ok : cls_.all xcok = true := by decide +kernel
end
section
/-! An abstract run of bytecode over numbers: values (tag, size, number), memory by cell and place. -/
abbrev xV : Type := Nat × Nat × Int
abbrev xM : Type := Int → Int → Int
abbrev xE : Type := Nat × Instr × Nat × Nat × Nat × Nat × Nat × Int × List Nat
abbrev xI (x : Int) : xV := (0, 0, x)
abbrev xL (x : Int) : xV := (1, 0, x)
abbrev xO (c : Nat) (a : Int) : xV := (2, c, a)
abbrev xAI (n : Nat) (a : Int) : xV := (3, n, a)
abbrev xAL (n : Nat) (a : Int) : xV := (4, n, a)
abbrev xAZ (n : Nat) (a : Int) : xV := (5, n, a)
abbrev xAT (n : Nat) (a : Int) : xV := (6, n, a)
abbrev xAR (n : Nat) (a : Int) : xV := (7, n, a)
abbrev xAB (n : Nat) (a : Int) : xV := (12, n, a)
abbrev xD (b : Int) : xV := (8, 0, b)
abbrev xU : xV := (9, 0, 0)
abbrev xS (i : Int) : xV := (10, 0, i)
abbrev xX : xV := (11, 0, 0)
/-- the number of the class of tables, the length of the rows of rows -/
abbrev xTab : Nat := 6
abbrev xRow : Nat := 17
def z32 (x : Int) : Int := x.bmod 4294967296
def z64 (x : Int) : Int := x.bmod 18446744073709551616
def up (M : xM) (a i v : Int) : xM := fun b j => if b = a then (if j = i then v else M b j) else M b j
def iand (x y : Int) : Int := (Int32.ofInt x &&& Int32.ofInt y).toInt
def ior (x y : Int) : Int := (Int32.ofInt x ||| Int32.ofInt y).toInt
def ishl (x y : Int) : Int := (Int32.ofInt x <<< (Int32.ofInt y &&& 31)).toInt
def ishr (x y : Int) : Int := (Int32.ofInt x >>> (Int32.ofInt y &&& 31)).toInt
def idiv (x y : Int) : Int := (Int32.ofInt x / Int32.ofInt y).toInt
def irem (x y : Int) : Int := (Int32.ofInt x - Int32.ofInt x / Int32.ofInt y * Int32.ofInt y).toInt
def i2b (x : Int) : Int := (Int32.ofInt x).toInt8.toInt32.toInt
def land (x y : Int) : Int := (Int64.ofInt x &&& Int64.ofInt y).toInt
def lor (x y : Int) : Int := (Int64.ofInt x ||| Int64.ofInt y).toInt
def lxor (x y : Int) : Int := (Int64.ofInt x ^^^ Int64.ofInt y).toInt
def lshl (x y : Int) : Int := (Int64.ofInt x <<< ((Int32.ofInt y).toInt64 &&& 63)).toInt
def lshr (x y : Int) : Int := (Int64.ofInt x >>> ((Int32.ofInt y).toInt64 &&& 63)).toInt
def lushr (x y : Int) : Int := ((Int64.ofInt x).toUInt64 >>> ((Int32.ofInt y).toInt64.toUInt64 &&& Int64.toUInt64 63)).toInt64.toInt
def ldiv (x y : Int) : Int := (Int64.ofInt x / Int64.ofInt y).toInt
def lrem (x y : Int) : Int := (Int64.ofInt x - Int64.ofInt x / Int64.ofInt y * Int64.ofInt y).toInt
def l2d (x : Int) : Int := ((FP.l2d (Int64.ofInt x)).toNat : Int)
def ddiv (x y : Int) : Int := ((FP.ddiv (UInt64.ofNat x.toNat) (UInt64.ofNat y.toNat)).toNat : Int)
/-- the bits are no NaN's -/
def dok (x : Int) : Prop := UInt64.ofNat x.toNat &&& 0x7fffffffffffffff ≤ 0x7ff0000000000000
/-- a number's bits as a long -/
def d2l (x : Int) : Int := (UInt64.ofNat x.toNat).toInt64.toInt
/-- the text of the constants: 'strides' -/
def strv (j : Int) : Int := [115, 116, 114, 105, 100, 101, 115].getD j.toNat 0
/-- the less, the greater of two -/
def mn (x y : Int) : Int := if y < x then y else x
def mx (x y : Int) : Int := if y < x then x else y
/-- a boolean goes out as 0 or 1 -/
def rb (x : Int) (P : Prop) : Prop := match x with
  | 0 => P
  | 1 => P
  | _ => (x = 0 ∨ x = 1) ∧ P
def cnd (o : ClassFile.Cond) (x y : Int) : Prop := match o with
  | .eq => x = y
  | .ne => ¬ x = y
  | .lt => x < y
  | .ge => y ≤ x
  | .gt => y < x
  | .le => x ≤ y
def oc (n : Nat) : ClassFile.Cond := match n with
  | 0 => .eq
  | 1 => .ne
  | 2 => .lt
  | 3 => .ge
  | 4 => .gt
  | _ => .le
def sI (S : List xV) (k : Int → List xV → Prop) : Prop := match S with
  | (0, _, x) :: T => k x T
  | _ => False
def sL (S : List xV) (k : Int → List xV → Prop) : Prop := match S with
  | (1, _, x) :: T => k x T
  | _ => False
def sD (S : List xV) (k : Int → List xV → Prop) : Prop := match S with
  | (8, _, x) :: T => k x T
  | _ => False
def sO (c : Nat) (S : List xV) (k : Int → List xV → Prop) : Prop := match S with
  | (2, d, x) :: T => match Nat.beq c d with
    | true => k x T
    | false => False
  | _ => False
/-- a place of a row: in its bounds -/
def sIn (j : Int) (n : Nat) (P : Prop) : Prop := (0 ≤ j ∧ j < (n : Int)) ∧ P
def sA (t : Nat) (S : List xV) (k : Nat → Int → List xV → Prop) : Prop := match S with
  | (u, n, a) :: T => match Nat.beq t u with
    | true => k n a T
    | false => False
  | _ => False
def isR (v : xV) : Bool := match v.1 with
  | 0 => false
  | 1 => false
  | 8 => false
  | 9 => false
  | _ => true
def two (v : xV) : Bool := match v.1 with
  | 1 => true
  | 8 => true
  | _ => false
/-- a slot that is the first of two, when the second is written over -/
def cutv (v : xV) : xV := match two v with
  | true => xU
  | false => v
def cut1 (L : List xV) (i : Nat) : List xV := match i with
  | 0 => L
  | j + 1 => L.set j (cutv (L.getD j xU))
def st1 (L : List xV) (i : Nat) (v : xV) : List xV := (cut1 L i).set i v
def st2 (L : List xV) (i : Nat) (v : xV) : List xV := ((cut1 L i).set (i + 1) xU).set i v
def lay1 : List xV → List xV
  | [] => []
  | v :: vs => match two v with
    | true => v :: xU :: lay1 vs
    | false => v :: lay1 vs
def lay (a : List xV) (n : Nat) : List xV := lay1 a ++ List.replicate (n - (lay1 a).length) xU
def wid : List xV → Nat
  | [] => 0
  | v :: vs => match two v with
    | true => wid vs + 2
    | false => wid vs + 1
/-- what a field gives: its kind, size, way -/
def fget (M : xM) (a : Int) (k kind n : Nat) (off : Int) : xV := match kind with
  | 0 => xI (M a k)
  | 1 => xL (M a k)
  | t => (t, n, a + off)
/-- the ends of a table of jumps: the number is i, i + 1, .. -/
def sw (nx : Nat → Prop) (x : Int) (d : Nat) : Nat → List Nat → Prop
  | _, [] => nx d
  | i, t :: ts => (x = (i : Int) → nx t) ∧ (¬ x = (i : Int) → sw nx x d (i + 1) ts)
/-- a call: so many values come off the stack, they fit its locals -/
def sC (n m : Nat) (S : List xV) (k : List xV → List xV → Prop) : Prop := match Nat.ble n S.length, Nat.ble (wid (S.drop n)) 8, Nat.ble (lay1 (S.take n).reverse).length m with
  | true, true, true => k (S.take n).reverse (S.drop n)
  | _, _, _ => False
/-- who is called: an object of a class -/
def sH (c : Nat) (as : List xV) (P : Prop) : Prop := match as with
  | (2, d, _) :: _ => match Nat.beq c d with
    | true => P
    | false => False
  | _ => False
/-- little is on the stack -/
def sW (T : List xV) (P : Prop) : Prop := match Nat.ble (wid T) 8 with
  | true => P
  | false => False
def sB (b : Bool) (P : Prop) : Prop := match b with
  | true => P
  | false => False
def sV (S : List xV) (k : xV → List xV → Prop) : Prop := match S with
  | v :: T => k v T
  | _ => False
def sZ (n : Nat) (A B : Prop) : Prop := match n with
  | 0 => A
  | _ => B
def s3 (n : Nat) (A B : Prop) : Prop := match n with
  | 0 => A
  | 1 => B
  | _ => False
def sJ (S : List xV) (k : Nat → Int → List xV → Prop) (m : List xV → Prop) : Prop := match S with
  | (3, n, a) :: T => k n a T
  | (11, _, _) :: T => m T
  | _ => False
def sK (S : List xV) (k m : Nat → Int → List xV → Prop) : Prop := match S with
  | (6, n, a) :: T => k n a T
  | (7, n, a) :: T => m n a T
  | _ => False
def sY (S : List xV) (k m : Nat → Int → List xV → Prop) : Prop := match S with
  | (5, n, a) :: T => k n a T
  | (12, n, a) :: T => m n a T
  | _ => False
def sS (t : Nat) (S : List xV) (k : List xV → Prop) : Prop := match S with
  | (u, _, _) :: T => match Nat.beq t u with
    | true => k T
    | false => False
  | _ => False
def sMv (n : Nat) (A B C : Prop) : Prop := match n with
  | 9001 => A
  | 9002 => B
  | _ => C
def sMs (n : Nat) (A B B2 B3 C : Prop) : Prop := match n with
  | 9003 => A
  | 9004 => B
  | 9005 => B2
  | 9006 => B3
  | _ => C
def r1 (S : List xV) (k : Int → Prop) : Prop := match S with
  | [(0, _, x)] => k x
  | _ => False
def r2 (S : List xV) (k : Int → Prop) : Prop := match S with
  | [(1, _, x)] => k x
  | _ => False
def r0 (S : List xV) (k : Prop) : Prop := match S with
  | [] => k
  | _ => False
def pushr (n : Nat) (r : xV) (T : List xV) : List xV := match n with
  | 0 => T
  | _ => r :: T
/-- one instruction: nx goes on at a place, cl calls a method with locals, Q takes what is answered -/
def one (nx nc : Nat → List xV → List xV → xM → Prop) (cl : Nat → List xV → xM → (xV → xM → Prop) → Prop) (Q : xV → xM → Prop) (e : xE) (L S : List xV) (M : xM) : Prop :=
  match e with
  | (pc, ins, len, a1, a2, a3, a4, c, ts) => match ins with
    | .iconst _ => nx (pc + len) L (xI c :: S) M
    | .bipush _ => nx (pc + len) L (xI c :: S) M
    | .sipush _ => nx (pc + len) L (xI c :: S) M
    | .ldc _ => sZ a1 (nx (pc + len) L (xI c :: S) M) (nx (pc + len) L (xS c :: S) M)
    | .ldc_w _ => sZ a1 (nx (pc + len) L (xI c :: S) M) (nx (pc + len) L (xS c :: S) M)
    | .lconst _ => nx (pc + len) L (xL c :: S) M
    | .ldc2_w _ => sZ a1 (nx (pc + len) L (xL c :: S) M) (nx (pc + len) L (xD c :: S) M)
    | .iload_n _ => sI [L.getD a1 xU] fun x _ => nx (pc + len) L (xI x :: S) M
    | .iload _ => sI [L.getD a1 xU] fun x _ => nx (pc + len) L (xI x :: S) M
    | .lload_n _ => sL [L.getD a1 xU] fun x _ => nx (pc + len) L (xL x :: S) M
    | .lload _ => sL [L.getD a1 xU] fun x _ => nx (pc + len) L (xL x :: S) M
    | .aload_n _ => sB (isR (L.getD a1 xU)) (nx (pc + len) L (L.getD a1 xU :: S) M)
    | .aload _ => sB (isR (L.getD a1 xU)) (nx (pc + len) L (L.getD a1 xU :: S) M)
    | .istore_n _ => sI S fun x T => nx (pc + len) (st1 L a1 (xI x)) T M
    | .istore _ => sI S fun x T => nx (pc + len) (st1 L a1 (xI x)) T M
    | .lstore_n _ => sL S fun x T => nx (pc + len) (st2 L a1 (xL x)) T M
    | .lstore _ => sL S fun x T => nx (pc + len) (st2 L a1 (xL x)) T M
    | .astore_n _ => sV S fun v T => sB (isR v) (nx (pc + len) (st1 L a1 v) T M)
    | .astore _ => sV S fun v T => sB (isR v) (nx (pc + len) (st1 L a1 v) T M)
    | .iinc _ _ => sI [L.getD a1 xU] fun x _ => nx (pc + len) (st1 L a1 (xI (z32 (x + c)))) S M
    | .iadd => sI S fun y T => sI T fun x T => nx (pc + len) L (xI (z32 (x + y)) :: T) M
    | .isub => sI S fun y T => sI T fun x T => nx (pc + len) L (xI (z32 (x - y)) :: T) M
    | .imul => sI S fun y T => sI T fun x T => nx (pc + len) L (xI (z32 (x * y)) :: T) M
    | .iand => sI S fun y T => sI T fun x T => nx (pc + len) L (xI (iand x y) :: T) M
    | .ior => sI S fun y T => sI T fun x T => nx (pc + len) L (xI (ior x y) :: T) M
    | .ishl => sI S fun y T => sI T fun x T => nx (pc + len) L (xI (ishl x y) :: T) M
    | .ishr => sI S fun y T => sI T fun x T => nx (pc + len) L (xI (ishr x y) :: T) M
    | .idiv => sI S fun y T => sI T fun x T => ¬ y = 0 ∧ nx (pc + len) L (xI (idiv x y) :: T) M
    | .irem => sI S fun y T => sI T fun x T => ¬ y = 0 ∧ nx (pc + len) L (xI (irem x y) :: T) M
    | .i2b => sI S fun x T => nx (pc + len) L (xI (i2b x) :: T) M
    | .i2l => sI S fun x T => nx (pc + len) L (xL x :: T) M
    | .l2i => sL S fun x T => nx (pc + len) L (xI (z32 x) :: T) M
    | .l2d => sL S fun x T => nx (pc + len) L (xD (l2d x) :: T) M
    | .ladd => sL S fun y T => sL T fun x T => nx (pc + len) L (xL (z64 (x + y)) :: T) M
    | .lsub => sL S fun y T => sL T fun x T => nx (pc + len) L (xL (z64 (x - y)) :: T) M
    | .lmul => sL S fun y T => sL T fun x T => nx (pc + len) L (xL (z64 (x * y)) :: T) M
    | .land => sL S fun y T => sL T fun x T => nx (pc + len) L (xL (land x y) :: T) M
    | .lor => sL S fun y T => sL T fun x T => nx (pc + len) L (xL (lor x y) :: T) M
    | .lxor => sL S fun y T => sL T fun x T => nx (pc + len) L (xL (lxor x y) :: T) M
    | .ldiv => sL S fun y T => sL T fun x T => ¬ y = 0 ∧ nx (pc + len) L (xL (ldiv x y) :: T) M
    | .lrem => sL S fun y T => sL T fun x T => ¬ y = 0 ∧ nx (pc + len) L (xL (lrem x y) :: T) M
    | .lshl => sI S fun y T => sL T fun x T => nx (pc + len) L (xL (lshl x y) :: T) M
    | .lshr => sI S fun y T => sL T fun x T => nx (pc + len) L (xL (lshr x y) :: T) M
    | .lushr => sI S fun y T => sL T fun x T => nx (pc + len) L (xL (lushr x y) :: T) M
    | .lneg => sL S fun x T => nx (pc + len) L (xL (z64 (- x)) :: T) M
    | .ddiv => sD S fun y T => sD T fun x T => dok (ddiv x y) ∧ nx (pc + len) L (xD (ddiv x y) :: T) M
    | .dup => sV S fun v T => sB (!two v) (nx (pc + len) L (v :: v :: T) M)
    | .dup2 => sV S fun v T => sV T fun w T => sB (!two v && !two w) (nx (pc + len) L (v :: w :: v :: w :: T) M)
    | .pop => sV S fun v T => sB (!two v) (nx (pc + len) L T M)
    | .goto _ => nx a1 L S M
    | .if_icmp o _ => sI S fun y T => sI T fun x T => (cnd o x y → nx a1 L T M) ∧ (¬ cnd o x y → nx (pc + len) L T M)
    | .ifCond o _ => sI S fun x T => (cnd o x 0 → nx a1 L T M) ∧ (¬ cnd o x 0 → nx (pc + len) L T M)
    | .lcmp => sL S fun y T => sL T fun x T => (cnd (oc a2) x y → nx a1 L T M) ∧ (¬ cnd (oc a2) x y → nx (pc + len) L T M)
    | .tableswitch _ _ _ _ => sI S fun x T => sw (fun t => nx t L T M) x a1 0 ts
    | .getfield _ => sO a1 S fun a T => nx (pc + len) L (fget M a a2 a3 a4 c :: T) M
    | .putfield _ => s3 a3
        (sI S fun x T => sO a1 T fun a T => sZ a4 (nx (pc + len) L T (up M a a2 x)) (rb x (nx (pc + len) L T (up M a a2 x))))
        (sL S fun x T => sO a1 T fun a T => nx (pc + len) L T (up M a a2 x))
    | .iaload => sI S fun j T => sJ T (fun n a T => sIn j n (nx (pc + len) L (xI (M a j) :: T) M)) (fun T => sIn j (M (-1) 0).toNat (nx (pc + len) L (xI (M (-1) (j + 1)) :: T) M))
    | .laload => sI S fun j T => sA 4 T fun n a T => sIn j n (nx (pc + len) L (xL (M a j) :: T) M)
    | .baload => sI S fun j T => sY T (fun n a T => sIn j n (nx (pc + len) L (xI (M a j) :: T) M)) (fun n a T => sIn j n (nx (pc + len) L (xI (M a j) :: T) M))
    | .aaload => sI S fun j T => sK T (fun n a T => sIn j n (nx (pc + len) L (xO xTab (M a j) :: T) M)) (fun n a T => sIn j n (nx (pc + len) L (xAL xRow (M a j) :: T) M))
    | .arraylength => sS 11 S fun T => nx (pc + len) L (xI (M (-1) 0) :: T) M
    | .iastore => sI S fun x T => sI T fun j T => sA 3 T fun n a T => sIn j n (nx (pc + len) L T (up M a j x))
    | .lastore => sL S fun x T => sI T fun j T => sA 4 T fun n a T => sIn j n (nx (pc + len) L T (up M a j x))
    | .bastore => sI S fun x T => sI T fun j T => sY T (fun n a T => sIn j n (rb x (nx (pc + len) L T (up M a j x)))) (fun n a T => sIn j n (nx (pc + len) L T (up M a j (i2b x))))
    | .aastore => sO xTab S fun x T => sI T fun j T => sA 6 T fun n a T => sIn j n (nx (pc + len) L T (up M a j x))
    | .invokevirtual _ => sMv a1 (sS 10 S fun T => sW T (nx (pc + len) L (xI 7 :: T) M))
        (sI S fun j T => sS 10 T fun T => sW T (sIn j 7 (nx (pc + len) L (xI (strv j) :: T) M)))
        (sC a2 a3 S fun as T => sH c.toNat as (cl a1 (lay as a3) M fun r N => nc (pc + len) L (pushr a4 r T) N))
    | .invokestatic _ => sMs a1 (sD S fun x T => sW T (dok x ∧ nx (pc + len) L (xL (d2l x) :: T) M))
        (sI S fun y T => sI T fun x T => sW T (nx (pc + len) L (xI (mn x y) :: T) M))
        (sL S fun y T => sL T fun x T => sW T (nx (pc + len) L (xL (mx x y) :: T) M))
        (sL S fun y T => sL T fun x T => sW T (nx (pc + len) L (xL (mn x y) :: T) M))
        (sC a2 a3 S fun as T => cl a1 (lay as a3) M fun r N => nc (pc + len) L (pushr a4 r T) N)
    | .ireturn => r1 S fun x => sZ a1 (Q (xI x) M) (rb x (Q (xI x) M))
    | .lreturn => r2 S fun x => Q (xL x) M
    | .return_ => r0 S (Q xU M)
    | _ => False
theorem sI_m {S : List xV} {k k2 : Int → List xV → Prop} (h : ∀ x T, k x T → k2 x T) : sI S k → sI S k2 := by
  unfold sI; split
  · exact h _ _
  · exact id
theorem sL_m {S : List xV} {k k2 : Int → List xV → Prop} (h : ∀ x T, k x T → k2 x T) : sL S k → sL S k2 := by
  unfold sL; split
  · exact h _ _
  · exact id
theorem sD_m {S : List xV} {k k2 : Int → List xV → Prop} (h : ∀ x T, k x T → k2 x T) : sD S k → sD S k2 := by
  unfold sD; split
  · exact h _ _
  · exact id
theorem sO_m {c : Nat} {S : List xV} {k k2 : Int → List xV → Prop} (h : ∀ x T, k x T → k2 x T) : sO c S k → sO c S k2 := by
  unfold sO; split
  · split
    · exact h _ _
    · exact id
  · exact id
theorem sA_m {t : Nat} {S : List xV} {k k2 : Nat → Int → List xV → Prop} (h : ∀ n x T, k n x T → k2 n x T) : sA t S k → sA t S k2 := by
  unfold sA; split
  · split
    · exact h _ _ _
    · exact id
  · exact id
theorem sIn_m {j : Int} {n : Nat} {P P2 : Prop} (h : P → P2) : sIn j n P → sIn j n P2 := fun q => ⟨q.1, h q.2⟩
theorem rb_m {x : Int} {P P2 : Prop} (h : P → P2) : rb x P → rb x P2 := by
  unfold rb; split
  · exact h
  · exact h
  · exact fun q => ⟨q.1, h q.2⟩
theorem sB_m {b : Bool} {P P2 : Prop} (h : P → P2) : sB b P → sB b P2 := by
  unfold sB; split
  · exact h
  · exact id
theorem sV_m {S : List xV} {k k2 : xV → List xV → Prop} (h : ∀ x T, k x T → k2 x T) : sV S k → sV S k2 := by
  unfold sV; split
  · exact h _ _
  · exact id
theorem sZ_m {n : Nat} {A B A2 B2 : Prop} (h : A → A2) (h2 : B → B2) : sZ n A B → sZ n A2 B2 := by
  unfold sZ; split
  · exact h
  · exact h2
theorem s3_m {n : Nat} {A B A2 B2 : Prop} (h : A → A2) (h2 : B → B2) : s3 n A B → s3 n A2 B2 := by
  unfold s3; split
  · exact h
  · exact h2
  · exact id
theorem sJ_m {S : List xV} {k k2 : Nat → Int → List xV → Prop} {m m2 : List xV → Prop} (h : ∀ n x T, k n x T → k2 n x T) (h2 : ∀ T, m T → m2 T) : sJ S k m → sJ S k2 m2 := by
  unfold sJ; split
  · exact h _ _ _
  · exact h2 _
  · exact id
theorem sK_m {S : List xV} {k k2 m m2 : Nat → Int → List xV → Prop} (h : ∀ n x T, k n x T → k2 n x T) (h2 : ∀ n x T, m n x T → m2 n x T) : sK S k m → sK S k2 m2 := by
  unfold sK; split
  · exact h _ _ _
  · exact h2 _ _ _
  · exact id
theorem sY_m {S : List xV} {k k2 m m2 : Nat → Int → List xV → Prop} (h : ∀ n x T, k n x T → k2 n x T) (h2 : ∀ n x T, m n x T → m2 n x T) : sY S k m → sY S k2 m2 := by
  unfold sY; split
  · exact h _ _ _
  · exact h2 _ _ _
  · exact id
theorem sS_m {t : Nat} {S : List xV} {k k2 : List xV → Prop} (h : ∀ T, k T → k2 T) : sS t S k → sS t S k2 := by
  unfold sS; split
  · split
    · exact h _
    · exact id
  · exact id
theorem sMv_m {n : Nat} {A B C A2 B2 C2 : Prop} (h : A → A2) (h2 : B → B2) (h3 : C → C2) : sMv n A B C → sMv n A2 B2 C2 := by
  unfold sMv; split
  · exact h
  · exact h2
  · exact h3
theorem sMs_m {n : Nat} {A B B2 B3 C A' B' B2' B3' C' : Prop} (h : A → A') (h1 : B → B') (h2 : B2 → B2') (h3 : B3 → B3') (h4 : C → C') : sMs n A B B2 B3 C → sMs n A' B' B2' B3' C' := by
  unfold sMs; split
  · exact h
  · exact h1
  · exact h2
  · exact h3
  · exact h4
theorem sC_m {n m : Nat} {S : List xV} {k k2 : List xV → List xV → Prop} (h : ∀ x T, k x T → k2 x T) : sC n m S k → sC n m S k2 := by
  unfold sC; split
  · exact h _ _
  · exact id
theorem sH_m {c : Nat} {as : List xV} {P P2 : Prop} (h : P → P2) : sH c as P → sH c as P2 := by
  unfold sH; split
  · split
    · exact h
    · exact id
  · exact id
theorem sW_m {T : List xV} {P P2 : Prop} (h : P → P2) : sW T P → sW T P2 := by
  unfold sW; split
  · exact h
  · exact id
theorem r1_m {S : List xV} {k k2 : Int → Prop} (h : ∀ x, k x → k2 x) : r1 S k → r1 S k2 := by
  unfold r1; split
  · exact h _
  · exact id
theorem r2_m {S : List xV} {k k2 : Int → Prop} (h : ∀ x, k x → k2 x) : r2 S k → r2 S k2 := by
  unfold r2; split
  · exact h _
  · exact id
theorem r0_m {S : List xV} {k k2 : Prop} (h : k → k2) : r0 S k → r0 S k2 := by
  unfold r0; split
  · exact h
  · exact id
theorem br_m {c A B A2 B2 : Prop} (h : A → A2) (h2 : B → B2) : (c → A) ∧ (¬ c → B) → (c → A2) ∧ (¬ c → B2) := fun q => ⟨fun z => h (q.1 z), fun z => h2 (q.2 z)⟩
theorem gd_m {c A A2 : Prop} (h : A → A2) : c ∧ A → c ∧ A2 := fun q => ⟨q.1, h q.2⟩
theorem sw_m {nx nx2 : Nat → Prop} (h : ∀ t, nx t → nx2 t) {x : Int} {d : Nat} : ∀ {i : Nat} {ts : List Nat}, sw nx x d i ts → sw nx2 x d i ts
  | _, [] => h d
  | _, _ :: _ => br_m (h _) (sw_m h)
set_option maxHeartbeats 4000000 in
theorem one_m {nx nx2 nc nc2 : Nat → List xV → List xV → xM → Prop} {cl cl2 : Nat → List xV → xM → (xV → xM → Prop) → Prop} {Q Q2 : xV → xM → Prop} (hn : ∀ pc L S M, nx pc L S M → nx2 pc L S M) (hd : ∀ pc L S M, nc pc L S M → nc2 pc L S M)
    (hc : ∀ k L M q q2, (∀ r N, q r N → q2 r N) → cl k L M q → cl2 k L M q2) (hQ : ∀ v M, Q v M → Q2 v M) (e : xE) (L S : List xV) (M : xM) : one nx nc cl Q e L S M → one nx2 nc2 cl2 Q2 e L S M := by
  obtain ⟨pc, ins, len, a1, a2, a3, a4, c, ts⟩ := e
  cases ins <;> dsimp only [one] <;>
    repeat' first
      | exact hn _ _ _ _
      | exact hQ _ _
      | exact id
      | exact hc _ _ _ _ _ (fun _ _ => hd _ _ _ _)
      | refine sI_m fun _ _ => ?_
      | refine sL_m fun _ _ => ?_
      | refine sD_m fun _ _ => ?_
      | refine sO_m fun _ _ => ?_
      | refine sA_m fun _ _ _ => ?_
      | refine sV_m fun _ _ => ?_
      | refine sC_m fun _ _ => ?_
      | refine sS_m fun _ => ?_
      | refine sw_m fun _ => ?_
      | refine r1_m fun _ => ?_
      | refine r2_m fun _ => ?_
      | refine r0_m ?_
      | refine sIn_m ?_
      | refine sH_m ?_
      | refine sW_m ?_
      | refine rb_m ?_
      | refine sB_m ?_
      | refine sZ_m ?_ ?_
      | refine s3_m ?_ ?_
      | refine sJ_m (fun _ _ _ => ?_) (fun _ => ?_)
      | refine sK_m (fun _ _ _ => ?_) (fun _ _ _ => ?_)
      | refine sY_m (fun _ _ _ => ?_) (fun _ _ _ => ?_)
      | refine sMv_m ?_ ?_ ?_
      | refine sMs_m ?_ ?_ ?_ ?_ ?_
      | refine br_m ?_ ?_
      | refine gd_m ?_
/-- the code from a place on -/
def sf : List xE → Nat → List xE
  | [], _ => []
  | e :: es, pc => match Nat.beq e.1 pc with
    | true => e :: es
    | false => sf es pc
def nmem : List Nat → Nat → Bool
  | [], _ => false
  | n :: ns, m => match Nat.beq n m with
    | true => true
    | false => nmem ns m
def gof (cd es : List xE) (pc : Nat) : List xE := match es with
  | f :: fs => match Nat.beq f.1 pc with
    | true => f :: fs
    | false => sf cd pc
  | [] => sf cd pc
/-- a depth of calls is left -/
def sd (d : Nat) (k : Nat → Prop) : Prop := match d with
  | 0 => False
  | n + 1 => k n
abbrev xQ : Type := xV → xM → Prop
abbrev xP : Type := Nat → Nat → Nat → List xV → List xV → xM → xQ → Prop
/-- what holds ahead of an instruction if it holds behind it -/
def xClosed (C : Nat → List xE) (P : xP) : Prop := ∀ (d k : Nat) (L S : List xV) (M : xM) (Q : xQ) (e : xE), e ∈ C k →
  one (fun pc L S M => P d k pc L S M Q) (fun pc L S M => P d k pc L S M Q) (fun k' L' M q => sd d fun d' => P d' k' 0 L' [] M q) Q e L S M → P d k e.1 L S M Q
def xMono (P : xP) : Prop := ∀ (d k pc : Nat) (L S : List xV) (M : xM) (Q Q2 : xQ), (∀ v N, Q v N → Q2 v N) → P d k pc L S M Q → P d k pc L S M Q2
def RuC (C : Nat → List xE) (d k pc : Nat) (L S : List xV) (M : xM) (Q : xQ) : Prop := ∀ P : xP, xClosed C P → xMono P → P d k pc L S M Q
theorem RuC.mono {C : Nat → List xE} {d k pc : Nat} {L S : List xV} {M : xM} {Q Q2 : xQ} (h : ∀ v N, Q v N → Q2 v N) (r : RuC C d k pc L S M Q) : RuC C d k pc L S M Q2 := fun P hc hm => hm _ _ _ _ _ _ _ _ h (r P hc hm)
theorem sd_m {d : Nat} {k k2 : Nat → Prop} (h : ∀ n, k n → k2 n) : sd d k → sd d k2 := by
  unfold sd; split
  · exact id
  · exact h _
theorem RuC.step {C : Nat → List xE} {d k : Nat} {L S : List xV} {M : xM} {Q : xQ} {e : xE} (he : e ∈ C k)
    (h : one (fun pc L S M => RuC C d k pc L S M Q) (fun pc L S M => RuC C d k pc L S M Q) (fun k' L' M q => sd d fun d' => RuC C d' k' 0 L' [] M q) Q e L S M) : RuC C d k e.1 L S M Q := by
  intro P hc hm
  refine hc d k L S M Q e he (one_m (fun pc L S M r => r P hc hm) (fun pc L S M r => r P hc hm) ?_ (fun _ _ => id) e L S M h)
  intro k' L' M q q2 hq
  exact sd_m fun d' r => hm _ _ _ _ _ _ _ _ hq (r P hc hm)
/-- instructions up to the places st, to calls, to the end -/
def sxC (C : Nat → List xE) (st : List Nat) (d k : Nat) (Q : xQ) (cd : List xE) : Nat → List xE → List xV → List xV → xM → Prop
  | 0, _, _, _, _ => False
  | _ + 1, [], _, _, _ => False
  | n + 1, e :: es, L, S, M => one (fun pc L S M => match nmem st pc with
      | true => RuC C d k pc L S M Q
      | false => sxC C st d k Q cd n (gof cd es pc) L S M) (fun pc L S M => RuC C d k pc L S M Q) (fun k' L' M q => sd d fun d' => RuC C d' k' 0 L' [] M q) Q e L S M
theorem sf_sub : ∀ (cd : List xE) (pc : Nat) (e : xE), e ∈ sf cd pc → e ∈ cd
  | [], _, _, h => h
  | f :: fs, pc, e, h => by
    unfold sf at h
    split at h
    · exact h
    · exact List.mem_cons_of_mem _ (sf_sub fs pc e h)
theorem sf_head : ∀ (cd : List xE) (pc : Nat) (e : xE) (es : List xE), sf cd pc = e :: es → e.1 = pc
  | [], _, _, _, h => by cases h
  | f :: fs, pc, e, es, h => by
    unfold sf at h
    split at h
    · rename_i hb
      cases h
      exact Nat.eq_of_beq_eq_true hb
    · exact sf_head fs pc e es h
theorem sx_all {C : Nat → List xE} {st : List Nat} {d k : Nat} {Q : xQ} {cd : List xE} (hcd : C k = cd) : ∀ (n : Nat) (is : List xE) (pc : Nat) (L S : List xV) (M : xM), (∀ e ∈ is, e ∈ cd) → (∀ e es, is = e :: es → e.1 = pc) → sxC C st d k Q cd n is L S M → RuC C d k pc L S M Q
  | 0, _, _, _, _, _, _, _, h => h.elim
  | n + 1, [], _, _, _, _, _, _, h => h.elim
  | n + 1, e :: es, pc, L, S, M, hm, hp, h => by
    have hp := hp e es rfl
    subst hp
    refine RuC.step (by rw [hcd]; exact hm e List.mem_cons_self) (one_m ?_ (fun _ _ _ _ => id) ?_ (fun _ _ => id) e L S M h)
    · intro pc L S M h
      split at h
      · exact h
      · refine sx_all hcd n _ pc L S M ?_ ?_ h
        · intro f hf
          unfold gof at hf
          split at hf
          · split at hf
            · exact hm f (List.mem_cons_of_mem _ hf)
            · exact sf_sub _ _ _ hf
          · exact sf_sub _ _ _ hf
        · intro f fs hf
          unfold gof at hf
          split at hf
          · split at hf
            · rename_i hb
              cases hf
              exact Nat.eq_of_beq_eq_true hb
            · exact sf_head _ _ _ _ hf
          · exact sf_head _ _ _ _ hf
    · intro k' L' M q q2 hq
      exact sd_m fun d' r => r.mono hq
theorem sxC_ok {C : Nat → List xE} (cd : List xE) (n : Nat) (st : List Nat) {d k pc : Nat} {Q : xQ} {L S : List xV} {M : xM} (hcd : C k = cd) (h : sxC C st d k Q cd n (sf cd pc) L S M) : RuC C d k pc L S M Q :=
  sx_all hcd n _ pc L S M (fun _ he => sf_sub _ _ _ he) (fun _ _ he => sf_head _ _ _ _ he) h
end
section
abbrev kJ_bitCount : Nat := 0
def cJ_bitCount : List xE := [(0, .lload_n 0, 1, 0, 0, 0, 0, 0, []),
  (1, .lload_n 0, 1, 0, 0, 0, 0, 0, []),
  (2, .iconst 1, 1, 0, 0, 0, 0, 1, []),
  (3, .lushr, 1, 0, 0, 0, 0, 0, []),
  (4, .ldc2_w 314, 3, 0, 0, 0, 0, 6148914691236517205, [38]),
  (7, .land, 1, 0, 0, 0, 0, 0, []),
  (8, .lsub, 1, 0, 0, 0, 0, 0, []),
  (9, .lstore_n 0, 1, 0, 0, 0, 0, 0, []),
  (10, .lload_n 0, 1, 0, 0, 0, 0, 0, []),
  (11, .ldc2_w 316, 3, 0, 0, 0, 0, 3689348814741910323, [39]),
  (14, .land, 1, 0, 0, 0, 0, 0, []),
  (15, .lload_n 0, 1, 0, 0, 0, 0, 0, []),
  (16, .iconst 2, 1, 0, 0, 0, 0, 2, []),
  (17, .lushr, 1, 0, 0, 0, 0, 0, []),
  (18, .ldc2_w 316, 3, 0, 0, 0, 0, 3689348814741910323, [39]),
  (21, .land, 1, 0, 0, 0, 0, 0, []),
  (22, .ladd, 1, 0, 0, 0, 0, 0, []),
  (23, .lstore_n 0, 1, 0, 0, 0, 0, 0, []),
  (24, .lload_n 0, 1, 0, 0, 0, 0, 0, []),
  (25, .lload_n 0, 1, 0, 0, 0, 0, 0, []),
  (26, .iconst 4, 1, 0, 0, 0, 0, 4, []),
  (27, .lushr, 1, 0, 0, 0, 0, 0, []),
  (28, .ladd, 1, 0, 0, 0, 0, 0, []),
  (29, .ldc2_w 318, 3, 0, 0, 0, 0, 1085102592571150095, [40]),
  (32, .land, 1, 0, 0, 0, 0, 0, []),
  (33, .lstore_n 0, 1, 0, 0, 0, 0, 0, []),
  (34, .lload_n 0, 1, 0, 0, 0, 0, 0, []),
  (35, .lload_n 0, 1, 0, 0, 0, 0, 0, []),
  (36, .bipush 8, 2, 0, 0, 0, 0, 8, []),
  (38, .lushr, 1, 0, 0, 0, 0, 0, []),
  (39, .ladd, 1, 0, 0, 0, 0, 0, []),
  (40, .lstore_n 0, 1, 0, 0, 0, 0, 0, []),
  (41, .lload_n 0, 1, 0, 0, 0, 0, 0, []),
  (42, .lload_n 0, 1, 0, 0, 0, 0, 0, []),
  (43, .bipush 16, 2, 0, 0, 0, 0, 16, []),
  (45, .lushr, 1, 0, 0, 0, 0, 0, []),
  (46, .ladd, 1, 0, 0, 0, 0, 0, []),
  (47, .lstore_n 0, 1, 0, 0, 0, 0, 0, []),
  (48, .lload_n 0, 1, 0, 0, 0, 0, 0, []),
  (49, .lload_n 0, 1, 0, 0, 0, 0, 0, []),
  (50, .bipush 32, 2, 0, 0, 0, 0, 32, []),
  (52, .lushr, 1, 0, 0, 0, 0, 0, []),
  (53, .ladd, 1, 0, 0, 0, 0, 0, []),
  (54, .lstore_n 0, 1, 0, 0, 0, 0, 0, []),
  (55, .lload_n 0, 1, 0, 0, 0, 0, 0, []),
  (56, .l2i, 1, 0, 0, 0, 0, 0, []),
  (57, .bipush 127, 2, 0, 0, 0, 0, 127, []),
  (59, .iand, 1, 0, 0, 0, 0, 0, []),
  (60, .ireturn, 1, 0, 0, 0, 0, 0, [])]
abbrev kCosts_weigh : Nat := 1
def cCosts_weigh : List xE := [(0, .iconst 0, 1, 0, 0, 0, 0, 0, []),
  (1, .istore_n 2, 1, 2, 0, 0, 0, 0, []),
  (2, .iload_n 2, 1, 2, 0, 0, 0, 0, []),
  (3, .bipush 32, 2, 0, 0, 0, 0, 32, []),
  (5, .if_icmp .ge 20, 3, 25, 0, 0, 0, 0, []),
  (8, .aload_n 0, 1, 0, 0, 0, 0, 0, []),
  (9, .getfield 9, 3, 0, 0, 4, 33, 1, [0]),
  (12, .iload_n 2, 1, 2, 0, 0, 0, 0, []),
  (13, .aload_n 1, 1, 1, 0, 0, 0, 0, []),
  (14, .iload_n 2, 1, 2, 0, 0, 0, 0, []),
  (15, .invokestatic 20, 3, 2, 2, 13, 1, 0, [0]),
  (18, .lastore, 1, 0, 0, 0, 0, 0, []),
  (19, .iinc 2 1, 3, 2, 0, 0, 0, 1, []),
  (22, .goto (-20), 3, 2, 0, 0, 0, 0, []),
  (25, .aload_n 0, 1, 0, 0, 0, 0, 0, []),
  (26, .getfield 9, 3, 0, 0, 4, 33, 1, [0]),
  (29, .iconst 0, 1, 0, 0, 0, 0, 0, []),
  (30, .lconst 1, 1, 0, 0, 0, 0, 1, []),
  (31, .lastore, 1, 0, 0, 0, 0, 0, []),
  (32, .bipush 32, 2, 0, 0, 0, 0, 32, []),
  (34, .istore_n 2, 1, 2, 0, 0, 0, 0, []),
  (35, .iload_n 2, 1, 2, 0, 0, 0, 0, []),
  (36, .ifCond .lt 58, 3, 94, 0, 0, 0, 0, []),
  (39, .aload_n 0, 1, 0, 0, 0, 0, 0, []),
  (40, .getfield 17, 3, 0, 1, 7, 33, 2, [1]),
  (43, .iload_n 2, 1, 2, 0, 0, 0, 0, []),
  (44, .aaload, 1, 0, 0, 0, 0, 0, []),
  (45, .iconst 0, 1, 0, 0, 0, 0, 0, []),
  (46, .iload_n 2, 1, 2, 0, 0, 0, 0, []),
  (47, .bipush 32, 2, 0, 0, 0, 0, 32, []),
  (49, .if_icmp .ne 7, 3, 56, 0, 0, 0, 0, []),
  (52, .lconst 0, 1, 0, 0, 0, 0, 0, []),
  (53, .goto 6, 3, 59, 0, 0, 0, 0, []),
  (56, .ldc2_w 24, 3, 0, 0, 0, 0, 1152921504606846976, [0]),
  (59, .lastore, 1, 0, 0, 0, 0, 0, []),
  (60, .iconst 1, 1, 0, 0, 0, 0, 1, []),
  (61, .istore_n 3, 1, 3, 0, 0, 0, 0, []),
  (62, .iload_n 3, 1, 3, 0, 0, 0, 0, []),
  (63, .bipush 16, 2, 0, 0, 0, 0, 16, []),
  (65, .if_icmp .gt 23, 3, 88, 0, 0, 0, 0, []),
  (68, .aload_n 0, 1, 0, 0, 0, 0, 0, []),
  (69, .getfield 17, 3, 0, 1, 7, 33, 2, [1]),
  (72, .iload_n 2, 1, 2, 0, 0, 0, 0, []),
  (73, .aaload, 1, 0, 0, 0, 0, 0, []),
  (74, .iload_n 3, 1, 3, 0, 0, 0, 0, []),
  (75, .aload_n 0, 1, 0, 0, 0, 0, 0, []),
  (76, .iload_n 2, 1, 2, 0, 0, 0, 0, []),
  (77, .iload_n 3, 1, 3, 0, 0, 0, 0, []),
  (78, .invokevirtual 26, 3, 4, 3, 6, 1, 0, [1]),
  (81, .lastore, 1, 0, 0, 0, 0, 0, []),
  (82, .iinc 3 1, 3, 3, 0, 0, 0, 1, []),
  (85, .goto (-23), 3, 62, 0, 0, 0, 0, []),
  (88, .iinc 2 (-1), 3, 2, 0, 0, 0, (-1), []),
  (91, .goto (-56), 3, 35, 0, 0, 0, 0, []),
  (94, .return_, 1, 0, 0, 0, 0, 0, [])]
abbrev kCosts_partedBeginnings : Nat := 2
def cCosts_partedBeginnings : List xE := [(0, .lconst 0, 1, 0, 0, 0, 0, 0, []),
  (1, .lstore_n 2, 1, 2, 0, 0, 0, 0, []),
  (2, .ldc2_w 30, 3, 0, 0, 0, 0, (-1), [1]),
  (5, .lstore 4, 2, 4, 0, 0, 0, 0, []),
  (7, .iload_n 1, 1, 1, 0, 0, 0, 0, []),
  (8, .invokestatic 32, 3, 120, 1, 1, 1, 0, [2]),
  (11, .lstore 6, 2, 6, 0, 0, 0, 0, []),
  (13, .iconst 1, 1, 0, 0, 0, 0, 1, []),
  (14, .istore 8, 2, 8, 0, 0, 0, 0, []),
  (16, .iload 8, 2, 8, 0, 0, 0, 0, []),
  (18, .aload_n 0, 1, 0, 0, 0, 0, 0, []),
  (19, .getfield 36, 3, 5, 0, 0, 0, 0, [2]),
  (22, .if_icmp .ge 62, 3, 84, 0, 0, 0, 0, []),
  (25, .iload 8, 2, 8, 0, 0, 0, 0, []),
  (27, .bipush 121, 2, 0, 0, 0, 0, 121, []),
  (29, .if_icmp .ge 55, 3, 84, 0, 0, 0, 0, []),
  (32, .aload_n 0, 1, 0, 0, 0, 0, 0, []),
  (33, .getfield 42, 3, 5, 1, 4, 121, 1, [3]),
  (36, .iload 8, 2, 8, 0, 0, 0, 0, []),
  (38, .laload, 1, 0, 0, 0, 0, 0, []),
  (39, .lstore 9, 2, 9, 0, 0, 0, 0, []),
  (41, .lload 9, 2, 9, 0, 0, 0, 0, []),
  (43, .bipush 32, 2, 0, 0, 0, 0, 32, []),
  (45, .iload_n 1, 1, 1, 0, 0, 0, 0, []),
  (46, .isub, 1, 0, 0, 0, 0, 0, []),
  (47, .lshr, 1, 0, 0, 0, 0, 0, []),
  (48, .lstore 11, 2, 11, 0, 0, 0, 0, []),
  (50, .lload 9, 2, 9, 0, 0, 0, 0, []),
  (52, .lload 6, 2, 6, 0, 0, 0, 0, []),
  (54, .lconst 1, 1, 0, 0, 0, 0, 1, []),
  (55, .lsub, 1, 0, 0, 0, 0, 0, []),
  (56, .land, 1, 0, 0, 0, 0, 0, []),
  (57, .lconst 0, 1, 0, 0, 0, 0, 0, []),
  (58, .lcmp, 4, 78, 0, 0, 0, 0, []),
  (62, .lload 11, 2, 11, 0, 0, 0, 0, []),
  (64, .lload 4, 2, 4, 0, 0, 0, 0, []),
  (66, .lcmp, 4, 78, 0, 0, 0, 0, []),
  (70, .lload_n 2, 1, 2, 0, 0, 0, 0, []),
  (71, .lconst 1, 1, 0, 0, 0, 0, 1, []),
  (72, .ladd, 1, 0, 0, 0, 0, 0, []),
  (73, .lstore_n 2, 1, 2, 0, 0, 0, 0, []),
  (74, .lload 11, 2, 11, 0, 0, 0, 0, []),
  (76, .lstore 4, 2, 4, 0, 0, 0, 0, []),
  (78, .iinc 8 1, 3, 8, 0, 0, 0, 1, []),
  (81, .goto (-65), 3, 16, 0, 0, 0, 0, []),
  (84, .lload_n 2, 1, 2, 0, 0, 0, 0, []),
  (85, .lreturn, 1, 0, 0, 0, 0, 0, [])]
abbrev kCosts_slotsWith : Nat := 3
def cCosts_slotsWith : List xE := [(0, .iload_n 1, 1, 1, 0, 0, 0, 0, []),
  (1, .iload_n 3, 1, 3, 0, 0, 0, 0, []),
  (2, .iadd, 1, 0, 0, 0, 0, 0, []),
  (3, .istore 4, 2, 4, 0, 0, 0, 0, []),
  (5, .iload_n 1, 1, 1, 0, 0, 0, 0, []),
  (6, .ifCond .lt 21, 3, 27, 0, 0, 0, 0, []),
  (9, .iload 4, 2, 4, 0, 0, 0, 0, []),
  (11, .bipush 32, 2, 0, 0, 0, 0, 32, []),
  (13, .if_icmp .gt 14, 3, 27, 0, 0, 0, 0, []),
  (16, .iload_n 2, 1, 2, 0, 0, 0, 0, []),
  (17, .iconst 1, 1, 0, 0, 0, 0, 1, []),
  (18, .if_icmp .lt 9, 3, 27, 0, 0, 0, 0, []),
  (21, .iload_n 2, 1, 2, 0, 0, 0, 0, []),
  (22, .bipush 16, 2, 0, 0, 0, 0, 16, []),
  (24, .if_icmp .le 7, 3, 31, 0, 0, 0, 0, []),
  (27, .ldc2_w 24, 3, 0, 0, 0, 0, 1152921504606846976, [0]),
  (30, .lreturn, 1, 0, 0, 0, 0, 0, []),
  (31, .aload_n 0, 1, 0, 0, 0, 0, 0, []),
  (32, .getfield 9, 3, 0, 0, 4, 33, 1, [0]),
  (35, .iload_n 1, 1, 1, 0, 0, 0, 0, []),
  (36, .laload, 1, 0, 0, 0, 0, 0, []),
  (37, .iload_n 3, 1, 3, 0, 0, 0, 0, []),
  (38, .lshl, 1, 0, 0, 0, 0, 0, []),
  (39, .aload_n 0, 1, 0, 0, 0, 0, 0, []),
  (40, .getfield 17, 3, 0, 1, 7, 33, 2, [1]),
  (43, .iload 4, 2, 4, 0, 0, 0, 0, []),
  (45, .aaload, 1, 0, 0, 0, 0, 0, []),
  (46, .iload_n 2, 1, 2, 0, 0, 0, 0, []),
  (47, .iconst 1, 1, 0, 0, 0, 0, 1, []),
  (48, .isub, 1, 0, 0, 0, 0, 0, []),
  (49, .laload, 1, 0, 0, 0, 0, 0, []),
  (50, .ladd, 1, 0, 0, 0, 0, 0, []),
  (51, .lreturn, 1, 0, 0, 0, 0, 0, [])]
abbrev kCosts_fewestSlots : Nat := 4
def cCosts_fewestSlots : List xE := [(0, .ldc2_w 24, 3, 0, 0, 0, 0, 1152921504606846976, [0]),
  (3, .lstore_n 3, 1, 3, 0, 0, 0, 0, []),
  (4, .iconst 2, 1, 0, 0, 0, 0, 2, []),
  (5, .istore 5, 2, 5, 0, 0, 0, 0, []),
  (7, .iload 5, 2, 5, 0, 0, 0, 0, []),
  (9, .bipush 6, 2, 0, 0, 0, 0, 6, []),
  (11, .if_icmp .gt 22, 3, 33, 0, 0, 0, 0, []),
  (14, .lload_n 3, 1, 3, 0, 0, 0, 0, []),
  (15, .aload_n 0, 1, 0, 0, 0, 0, 0, []),
  (16, .iload_n 1, 1, 1, 0, 0, 0, 0, []),
  (17, .iload_n 2, 1, 2, 0, 0, 0, 0, []),
  (18, .iload 5, 2, 5, 0, 0, 0, 0, []),
  (20, .invokevirtual 45, 3, 3, 4, 5, 1, 0, [3]),
  (23, .invokestatic 49, 3, 9006, 0, 0, 0, 0, []),
  (26, .lstore_n 3, 1, 3, 0, 0, 0, 0, []),
  (27, .iinc 5 1, 3, 5, 0, 0, 0, 1, []),
  (30, .goto (-23), 3, 7, 0, 0, 0, 0, []),
  (33, .lload_n 3, 1, 3, 0, 0, 0, 0, []),
  (34, .lreturn, 1, 0, 0, 0, 0, 0, [])]
abbrev kCosts_slotsBy : Nat := 5
def cCosts_slotsBy : List xE := [(0, .iload_n 1, 1, 1, 0, 0, 0, 0, []),
  (1, .ifCond .lt 20, 3, 21, 0, 0, 0, 0, []),
  (4, .iload_n 1, 1, 1, 0, 0, 0, 0, []),
  (5, .bipush 16, 2, 0, 0, 0, 0, 16, []),
  (7, .if_icmp .gt 14, 3, 21, 0, 0, 0, 0, []),
  (10, .aload_n 0, 1, 0, 0, 0, 0, 0, []),
  (11, .getfield 17, 3, 0, 1, 7, 33, 2, [1]),
  (14, .iconst 0, 1, 0, 0, 0, 0, 0, []),
  (15, .aaload, 1, 0, 0, 0, 0, 0, []),
  (16, .iload_n 1, 1, 1, 0, 0, 0, 0, []),
  (17, .laload, 1, 0, 0, 0, 0, 0, []),
  (18, .goto 6, 3, 24, 0, 0, 0, 0, []),
  (21, .ldc2_w 24, 3, 0, 0, 0, 0, 1152921504606846976, [0]),
  (24, .lreturn, 1, 0, 0, 0, 0, 0, [])]
abbrev kCosts_bestLevels : Nat := 6
def cCosts_bestLevels : List xE := [(0, .bipush 6, 2, 0, 0, 0, 0, 6, []),
  (2, .istore_n 2, 1, 2, 0, 0, 0, 0, []),
  (3, .bipush 6, 2, 0, 0, 0, 0, 6, []),
  (5, .istore_n 3, 1, 3, 0, 0, 0, 0, []),
  (6, .iload_n 3, 1, 3, 0, 0, 0, 0, []),
  (7, .iload_n 1, 1, 1, 0, 0, 0, 0, []),
  (8, .if_icmp .gt 25, 3, 33, 0, 0, 0, 0, []),
  (11, .aload_n 0, 1, 0, 0, 0, 0, 0, []),
  (12, .iload_n 3, 1, 3, 0, 0, 0, 0, []),
  (13, .invokevirtual 55, 3, 5, 2, 2, 1, 0, [4]),
  (16, .aload_n 0, 1, 0, 0, 0, 0, 0, []),
  (17, .iload_n 2, 1, 2, 0, 0, 0, 0, []),
  (18, .invokevirtual 55, 3, 5, 2, 2, 1, 0, [4]),
  (21, .lcmp, 4, 27, 3, 0, 0, 0, []),
  (25, .iload_n 3, 1, 3, 0, 0, 0, 0, []),
  (26, .istore_n 2, 1, 2, 0, 0, 0, 0, []),
  (27, .iinc 3 1, 3, 3, 0, 0, 0, 1, []),
  (30, .goto (-24), 3, 6, 0, 0, 0, 0, []),
  (33, .iload_n 2, 1, 2, 0, 0, 0, 0, []),
  (34, .ireturn, 1, 0, 0, 0, 0, 0, [])]
abbrev kCosts_digitsBy : Nat := 7
def cCosts_digitsBy : List xE := [(0, .lconst 0, 1, 0, 0, 0, 0, 0, []),
  (1, .lstore_n 2, 1, 2, 0, 0, 0, 0, []),
  (2, .iconst 0, 1, 0, 0, 0, 0, 0, []),
  (3, .istore 4, 2, 4, 0, 0, 0, 0, []),
  (5, .iload_n 1, 1, 1, 0, 0, 0, 0, []),
  (6, .istore 5, 2, 5, 0, 0, 0, 0, []),
  (8, .iload 5, 2, 5, 0, 0, 0, 0, []),
  (10, .ifCond .le 64, 3, 74, 0, 0, 0, 0, []),
  (13, .iconst 2, 1, 0, 0, 0, 0, 2, []),
  (14, .istore 6, 2, 6, 0, 0, 0, 0, []),
  (16, .iload 6, 2, 6, 0, 0, 0, 0, []),
  (18, .bipush 6, 2, 0, 0, 0, 0, 6, []),
  (20, .if_icmp .ge 31, 3, 51, 0, 0, 0, 0, []),
  (23, .aload_n 0, 1, 0, 0, 0, 0, 0, []),
  (24, .iload 4, 2, 4, 0, 0, 0, 0, []),
  (26, .iload 5, 2, 5, 0, 0, 0, 0, []),
  (28, .iload 6, 2, 6, 0, 0, 0, 0, []),
  (30, .invokevirtual 45, 3, 3, 4, 5, 1, 0, [3]),
  (33, .aload_n 0, 1, 0, 0, 0, 0, 0, []),
  (34, .iload 4, 2, 4, 0, 0, 0, 0, []),
  (36, .iload 5, 2, 5, 0, 0, 0, 0, []),
  (38, .invokevirtual 26, 3, 4, 3, 6, 1, 0, [1]),
  (41, .lcmp, 4, 51, 0, 0, 0, 0, []),
  (45, .iinc 6 1, 3, 6, 0, 0, 0, 1, []),
  (48, .goto (-32), 3, 16, 0, 0, 0, 0, []),
  (51, .lload_n 2, 1, 2, 0, 0, 0, 0, []),
  (52, .ldc2_w 58, 3, 0, 0, 0, 0, 10, [2]),
  (55, .lmul, 1, 0, 0, 0, 0, 0, []),
  (56, .iload 6, 2, 6, 0, 0, 0, 0, []),
  (58, .i2l, 1, 0, 0, 0, 0, 0, []),
  (59, .ladd, 1, 0, 0, 0, 0, 0, []),
  (60, .lstore_n 2, 1, 2, 0, 0, 0, 0, []),
  (61, .iload 4, 2, 4, 0, 0, 0, 0, []),
  (63, .iload 6, 2, 6, 0, 0, 0, 0, []),
  (65, .iadd, 1, 0, 0, 0, 0, 0, []),
  (66, .istore 4, 2, 4, 0, 0, 0, 0, []),
  (68, .iinc 5 (-1), 3, 5, 0, 0, 0, (-1), []),
  (71, .goto (-63), 3, 8, 0, 0, 0, 0, []),
  (74, .lload_n 2, 1, 2, 0, 0, 0, 0, []),
  (75, .lreturn, 1, 0, 0, 0, 0, 0, [])]
abbrev kFewest_seek : Nat := 8
def cFewest_seek : List xE := [(0, .aload_n 0, 1, 0, 0, 0, 0, 0, []),
  (1, .iconst 0, 1, 0, 0, 0, 0, 0, []),
  (2, .putfield 28, 3, 1, 6, 0, 0, 0, [9]),
  (5, .aload_n 0, 1, 0, 0, 0, 0, 0, []),
  (6, .iconst 0, 1, 0, 0, 0, 0, 0, []),
  (7, .putfield 32, 3, 1, 0, 0, 0, 0, [10]),
  (10, .aload_n 0, 1, 0, 0, 0, 0, 0, []),
  (11, .aload_n 1, 1, 1, 0, 0, 0, 0, []),
  (12, .lconst 0, 1, 0, 0, 0, 0, 0, []),
  (13, .iconst 0, 1, 0, 0, 0, 0, 0, []),
  (14, .iconst 0, 1, 0, 0, 0, 0, 0, []),
  (15, .invokevirtual 35, 3, 10, 5, 14, 1, 1, [5]),
  (18, .pop, 1, 0, 0, 0, 0, 0, []),
  (19, .aload_n 0, 1, 0, 0, 0, 0, 0, []),
  (20, .iconst 0, 1, 0, 0, 0, 0, 0, []),
  (21, .lconst 0, 1, 0, 0, 0, 0, 0, []),
  (22, .iconst 0, 1, 0, 0, 0, 0, 0, []),
  (23, .iconst (-1), 1, 0, 0, 0, 0, (-1), []),
  (24, .invokevirtual 39, 3, 11, 5, 7, 0, 1, [6]),
  (27, .return_, 1, 0, 0, 0, 0, 0, [])]
abbrev kFewest_hasNone : Nat := 9
def cFewest_hasNone : List xE := [(0, .iconst 0, 1, 0, 0, 0, 0, 0, []),
  (1, .istore_n 1, 1, 1, 0, 0, 0, 0, []),
  (2, .iload_n 1, 1, 1, 0, 0, 0, 0, []),
  (3, .aload_n 0, 1, 0, 0, 0, 0, 0, []),
  (4, .getfield 32, 3, 1, 0, 0, 0, 0, [10]),
  (7, .if_icmp .ge 27, 3, 34, 0, 0, 0, 0, []),
  (10, .iload_n 1, 1, 1, 0, 0, 0, 0, []),
  (11, .bipush 60, 2, 0, 0, 0, 0, 60, []),
  (13, .if_icmp .ge 21, 3, 34, 0, 0, 0, 0, []),
  (16, .aload_n 0, 1, 0, 0, 0, 0, 0, []),
  (17, .getfield 19, 3, 1, 3, 3, 60, 3, [6]),
  (20, .iload_n 1, 1, 1, 0, 0, 0, 0, []),
  (21, .iaload, 1, 0, 0, 0, 0, 0, []),
  (22, .iconst (-1), 1, 0, 0, 0, 0, (-1), []),
  (23, .if_icmp .ne 5, 3, 28, 0, 0, 0, 0, []),
  (26, .iconst 1, 1, 0, 0, 0, 0, 1, []),
  (27, .ireturn, 1, 1, 0, 0, 0, 0, []),
  (28, .iinc 1 1, 3, 1, 0, 0, 0, 1, []),
  (31, .goto (-29), 3, 2, 0, 0, 0, 0, []),
  (34, .iconst 0, 1, 0, 0, 0, 0, 0, []),
  (35, .ireturn, 1, 1, 0, 0, 0, 0, [])]
abbrev kFewest_part : Nat := 10
def cFewest_part : List xE := [(0, .aload_n 0, 1, 0, 0, 0, 0, 0, []),
  (1, .getfield 28, 3, 1, 6, 0, 0, 0, [9]),
  (4, .istore 6, 2, 6, 0, 0, 0, 0, []),
  (6, .iload 6, 2, 6, 0, 0, 0, 0, []),
  (8, .sipush 3723, 3, 0, 0, 0, 0, 3723, []),
  (11, .if_icmp .ge 10, 3, 21, 0, 0, 0, 0, []),
  (14, .iload 4, 2, 4, 0, 0, 0, 0, []),
  (16, .bipush 32, 2, 0, 0, 0, 0, 32, []),
  (18, .if_icmp .le 5, 3, 23, 0, 0, 0, 0, []),
  (21, .iconst (-1), 1, 0, 0, 0, 0, (-1), []),
  (22, .ireturn, 1, 0, 0, 0, 0, 0, []),
  (23, .aload_n 0, 1, 0, 0, 0, 0, 0, []),
  (24, .dup, 1, 0, 0, 0, 0, 0, []),
  (25, .getfield 28, 3, 1, 6, 0, 0, 0, [9]),
  (28, .iconst 1, 1, 0, 0, 0, 0, 1, []),
  (29, .iadd, 1, 0, 0, 0, 0, 0, []),
  (30, .putfield 28, 3, 1, 6, 0, 0, 0, [9]),
  (33, .aload_n 1, 1, 1, 0, 0, 0, 0, []),
  (34, .lload_n 2, 1, 2, 0, 0, 0, 0, []),
  (35, .iload 5, 2, 5, 0, 0, 0, 0, []),
  (37, .invokevirtual 43, 3, 49, 3, 5, 1, 5, [7]),
  (40, .istore 7, 2, 7, 0, 0, 0, 0, []),
  (42, .iload 4, 2, 4, 0, 0, 0, 0, []),
  (44, .invokestatic 49, 3, 120, 1, 1, 1, 0, [8]),
  (47, .lstore 8, 2, 8, 0, 0, 0, 0, []),
  (49, .aload_n 0, 1, 0, 0, 0, 0, 0, []),
  (50, .getfield 25, 3, 1, 5, 3, 3723, 5, [8]),
  (53, .iload 6, 2, 6, 0, 0, 0, 0, []),
  (55, .iconst (-1), 1, 0, 0, 0, 0, (-1), []),
  (56, .iastore, 1, 0, 0, 0, 0, 0, []),
  (57, .aload_n 0, 1, 0, 0, 0, 0, 0, []),
  (58, .getfield 22, 3, 1, 4, 4, 3723, 4, [7]),
  (61, .iload 6, 2, 6, 0, 0, 0, 0, []),
  (63, .lconst 1, 1, 0, 0, 0, 0, 1, []),
  (64, .aload_n 1, 1, 1, 0, 0, 0, 0, []),
  (65, .getfield 53, 3, 5, 3, 3, 121, 3, [11]),
  (68, .iload 7, 2, 7, 0, 0, 0, 0, []),
  (70, .iaload, 1, 0, 0, 0, 0, 0, []),
  (71, .iconst 1, 1, 0, 0, 0, 0, 1, []),
  (72, .iadd, 1, 0, 0, 0, 0, 0, []),
  (73, .lshl, 1, 0, 0, 0, 0, 0, []),
  (74, .lastore, 1, 0, 0, 0, 0, 0, []),
  (75, .aload_n 1, 1, 1, 0, 0, 0, 0, []),
  (76, .getfield 54, 3, 5, 2, 4, 121, 2, [12]),
  (79, .iload 7, 2, 7, 0, 0, 0, 0, []),
  (81, .laload, 1, 0, 0, 0, 0, 0, []),
  (82, .lload_n 2, 1, 2, 0, 0, 0, 0, []),
  (83, .lload 8, 2, 8, 0, 0, 0, 0, []),
  (85, .ladd, 1, 0, 0, 0, 0, 0, []),
  (86, .lconst 1, 1, 0, 0, 0, 0, 1, []),
  (87, .lsub, 1, 0, 0, 0, 0, 0, []),
  (88, .lcmp, 4, 95, 2, 0, 0, 0, []),
  (92, .iload 6, 2, 6, 0, 0, 0, 0, []),
  (94, .ireturn, 1, 0, 0, 0, 0, 0, []),
  (95, .aload_n 0, 1, 0, 0, 0, 0, 0, []),
  (96, .aload_n 1, 1, 1, 0, 0, 0, 0, []),
  (97, .lload_n 2, 1, 2, 0, 0, 0, 0, []),
  (98, .iload 4, 2, 4, 0, 0, 0, 0, []),
  (100, .iconst 1, 1, 0, 0, 0, 0, 1, []),
  (101, .iadd, 1, 0, 0, 0, 0, 0, []),
  (102, .iload 7, 2, 7, 0, 0, 0, 0, []),
  (104, .invokevirtual 35, 3, 10, 5, 14, 1, 1, [5]),
  (107, .istore 10, 2, 10, 0, 0, 0, 0, []),
  (109, .aload_n 0, 1, 0, 0, 0, 0, 0, []),
  (110, .aload_n 1, 1, 1, 0, 0, 0, 0, []),
  (111, .lload_n 2, 1, 2, 0, 0, 0, 0, []),
  (112, .lload 8, 2, 8, 0, 0, 0, 0, []),
  (114, .ldc2_w 57, 3, 0, 0, 0, 0, 2, [3]),
  (117, .ldiv, 1, 0, 0, 0, 0, 0, []),
  (118, .ladd, 1, 0, 0, 0, 0, 0, []),
  (119, .iload 4, 2, 4, 0, 0, 0, 0, []),
  (121, .iconst 1, 1, 0, 0, 0, 0, 1, []),
  (122, .iadd, 1, 0, 0, 0, 0, 0, []),
  (123, .iload 7, 2, 7, 0, 0, 0, 0, []),
  (125, .invokevirtual 35, 3, 10, 5, 14, 1, 1, [5]),
  (128, .istore 11, 2, 11, 0, 0, 0, 0, []),
  (130, .iload 10, 2, 10, 0, 0, 0, 0, []),
  (132, .ifCond .lt 84, 3, 216, 0, 0, 0, 0, []),
  (135, .iload 10, 2, 10, 0, 0, 0, 0, []),
  (137, .sipush 3723, 3, 0, 0, 0, 0, 3723, []),
  (140, .if_icmp .ge 76, 3, 216, 0, 0, 0, 0, []),
  (143, .iload 11, 2, 11, 0, 0, 0, 0, []),
  (145, .ifCond .lt 71, 3, 216, 0, 0, 0, 0, []),
  (148, .iload 11, 2, 11, 0, 0, 0, 0, []),
  (150, .sipush 3723, 3, 0, 0, 0, 0, 3723, []),
  (153, .if_icmp .ge 63, 3, 216, 0, 0, 0, 0, []),
  (156, .aload_n 0, 1, 0, 0, 0, 0, 0, []),
  (157, .getfield 22, 3, 1, 4, 4, 3723, 4, [7]),
  (160, .iload 10, 2, 10, 0, 0, 0, 0, []),
  (162, .laload, 1, 0, 0, 0, 0, 0, []),
  (163, .aload_n 0, 1, 0, 0, 0, 0, 0, []),
  (164, .getfield 22, 3, 1, 4, 4, 3723, 4, [7]),
  (167, .iload 11, 2, 11, 0, 0, 0, 0, []),
  (169, .laload, 1, 0, 0, 0, 0, 0, []),
  (170, .land, 1, 0, 0, 0, 0, 0, []),
  (171, .lstore 12, 2, 12, 0, 0, 0, 0, []),
  (173, .aload_n 0, 1, 0, 0, 0, 0, 0, []),
  (174, .getfield 22, 3, 1, 4, 4, 3723, 4, [7]),
  (177, .iload 6, 2, 6, 0, 0, 0, 0, []),
  (179, .lload 12, 2, 12, 0, 0, 0, 0, []),
  (181, .lconst 0, 1, 0, 0, 0, 0, 0, []),
  (182, .lcmp, 4, 191, 0, 0, 0, 0, []),
  (186, .lload 12, 2, 12, 0, 0, 0, 0, []),
  (188, .goto 18, 3, 206, 0, 0, 0, 0, []),
  (191, .aload_n 0, 1, 0, 0, 0, 0, 0, []),
  (192, .getfield 22, 3, 1, 4, 4, 3723, 4, [7]),
  (195, .iload 10, 2, 10, 0, 0, 0, 0, []),
  (197, .laload, 1, 0, 0, 0, 0, 0, []),
  (198, .aload_n 0, 1, 0, 0, 0, 0, 0, []),
  (199, .getfield 22, 3, 1, 4, 4, 3723, 4, [7]),
  (202, .iload 11, 2, 11, 0, 0, 0, 0, []),
  (204, .laload, 1, 0, 0, 0, 0, 0, []),
  (205, .lor, 1, 0, 0, 0, 0, 0, []),
  (206, .lastore, 1, 0, 0, 0, 0, 0, []),
  (207, .aload_n 0, 1, 0, 0, 0, 0, 0, []),
  (208, .getfield 25, 3, 1, 5, 3, 3723, 5, [8]),
  (211, .iload 6, 2, 6, 0, 0, 0, 0, []),
  (213, .iload 11, 2, 11, 0, 0, 0, 0, []),
  (215, .iastore, 1, 0, 0, 0, 0, 0, []),
  (216, .iload 6, 2, 6, 0, 0, 0, 0, []),
  (218, .ireturn, 1, 0, 0, 0, 0, 0, [])]
abbrev kFewest_hand : Nat := 11
def cFewest_hand : List xE := [(0, .iload_n 1, 1, 1, 0, 0, 0, 0, []),
  (1, .ifCond .lt 25, 3, 26, 0, 0, 0, 0, []),
  (4, .iload_n 1, 1, 1, 0, 0, 0, 0, []),
  (5, .aload_n 0, 1, 0, 0, 0, 0, 0, []),
  (6, .getfield 28, 3, 1, 6, 0, 0, 0, [9]),
  (9, .if_icmp .ge 17, 3, 26, 0, 0, 0, 0, []),
  (12, .iload_n 1, 1, 1, 0, 0, 0, 0, []),
  (13, .sipush 3723, 3, 0, 0, 0, 0, 3723, []),
  (16, .if_icmp .ge 10, 3, 26, 0, 0, 0, 0, []),
  (19, .iload 4, 2, 4, 0, 0, 0, 0, []),
  (21, .bipush 32, 2, 0, 0, 0, 0, 32, []),
  (23, .if_icmp .le 4, 3, 27, 0, 0, 0, 0, []),
  (26, .return_, 1, 0, 0, 0, 0, 0, []),
  (27, .iload 5, 2, 5, 0, 0, 0, 0, []),
  (29, .istore 6, 2, 6, 0, 0, 0, 0, []),
  (31, .aload_n 0, 1, 0, 0, 0, 0, 0, []),
  (32, .getfield 22, 3, 1, 4, 4, 3723, 4, [7]),
  (35, .iload_n 1, 1, 1, 0, 0, 0, 0, []),
  (36, .laload, 1, 0, 0, 0, 0, 0, []),
  (37, .lconst 1, 1, 0, 0, 0, 0, 1, []),
  (38, .iload 5, 2, 5, 0, 0, 0, 0, []),
  (40, .iconst 1, 1, 0, 0, 0, 0, 1, []),
  (41, .iadd, 1, 0, 0, 0, 0, 0, []),
  (42, .lshl, 1, 0, 0, 0, 0, 0, []),
  (43, .land, 1, 0, 0, 0, 0, 0, []),
  (44, .lconst 0, 1, 0, 0, 0, 0, 0, []),
  (45, .lcmp, 4, 69, 1, 0, 0, 0, []),
  (49, .aload_n 0, 1, 0, 0, 0, 0, 0, []),
  (50, .getfield 22, 3, 1, 4, 4, 3723, 4, [7]),
  (53, .iload_n 1, 1, 1, 0, 0, 0, 0, []),
  (54, .laload, 1, 0, 0, 0, 0, 0, []),
  (55, .invokestatic 59, 3, 12, 1, 2, 1, 0, [9]),
  (58, .istore 6, 2, 6, 0, 0, 0, 0, []),
  (60, .aload_n 0, 1, 0, 0, 0, 0, 0, []),
  (61, .lload_n 2, 1, 2, 0, 0, 0, 0, []),
  (62, .iload 4, 2, 4, 0, 0, 0, 0, []),
  (64, .iload 6, 2, 6, 0, 0, 0, 0, []),
  (66, .invokevirtual 63, 3, 13, 4, 5, 0, 1, [10]),
  (69, .aload_n 0, 1, 0, 0, 0, 0, 0, []),
  (70, .getfield 25, 3, 1, 5, 3, 3723, 5, [8]),
  (73, .iload_n 1, 1, 1, 0, 0, 0, 0, []),
  (74, .iaload, 1, 0, 0, 0, 0, 0, []),
  (75, .ifCond .lt 44, 3, 119, 0, 0, 0, 0, []),
  (78, .aload_n 0, 1, 0, 0, 0, 0, 0, []),
  (79, .iload_n 1, 1, 1, 0, 0, 0, 0, []),
  (80, .iconst 1, 1, 0, 0, 0, 0, 1, []),
  (81, .iadd, 1, 0, 0, 0, 0, 0, []),
  (82, .lload_n 2, 1, 2, 0, 0, 0, 0, []),
  (83, .iload 4, 2, 4, 0, 0, 0, 0, []),
  (85, .iconst 1, 1, 0, 0, 0, 0, 1, []),
  (86, .iadd, 1, 0, 0, 0, 0, 0, []),
  (87, .iload 6, 2, 6, 0, 0, 0, 0, []),
  (89, .invokevirtual 39, 3, 11, 5, 7, 0, 1, [6]),
  (92, .aload_n 0, 1, 0, 0, 0, 0, 0, []),
  (93, .aload_n 0, 1, 0, 0, 0, 0, 0, []),
  (94, .getfield 25, 3, 1, 5, 3, 3723, 5, [8]),
  (97, .iload_n 1, 1, 1, 0, 0, 0, 0, []),
  (98, .iaload, 1, 0, 0, 0, 0, 0, []),
  (99, .lload_n 2, 1, 2, 0, 0, 0, 0, []),
  (100, .iload 4, 2, 4, 0, 0, 0, 0, []),
  (102, .invokestatic 49, 3, 120, 1, 1, 1, 0, [8]),
  (105, .ldc2_w 57, 3, 0, 0, 0, 0, 2, [3]),
  (108, .ldiv, 1, 0, 0, 0, 0, 0, []),
  (109, .ladd, 1, 0, 0, 0, 0, 0, []),
  (110, .iload 4, 2, 4, 0, 0, 0, 0, []),
  (112, .iconst 1, 1, 0, 0, 0, 0, 1, []),
  (113, .iadd, 1, 0, 0, 0, 0, 0, []),
  (114, .iload 6, 2, 6, 0, 0, 0, 0, []),
  (116, .invokevirtual 39, 3, 11, 5, 7, 0, 1, [6]),
  (119, .return_, 1, 0, 0, 0, 0, 0, [])]
abbrev kFewest_leastOf : Nat := 12
def cFewest_leastOf : List xE := [(0, .lload_n 0, 1, 0, 0, 0, 0, 0, []),
  (1, .lload_n 0, 1, 0, 0, 0, 0, 0, []),
  (2, .lneg, 1, 0, 0, 0, 0, 0, []),
  (3, .land, 1, 0, 0, 0, 0, 0, []),
  (4, .lconst 1, 1, 0, 0, 0, 0, 1, []),
  (5, .lsub, 1, 0, 0, 0, 0, 0, []),
  (6, .invokestatic 67, 3, 0, 1, 2, 1, 0, [11]),
  (9, .iconst 1, 1, 0, 0, 0, 0, 1, []),
  (10, .isub, 1, 0, 0, 0, 0, 0, []),
  (11, .ireturn, 1, 0, 0, 0, 0, 0, [])]
abbrev kFewest_append : Nat := 13
def cFewest_append : List xE := [(0, .aload_n 0, 1, 0, 0, 0, 0, 0, []),
  (1, .getfield 32, 3, 1, 0, 0, 0, 0, [10]),
  (4, .bipush 60, 2, 0, 0, 0, 0, 60, []),
  (6, .if_icmp .ge 44, 3, 50, 0, 0, 0, 0, []),
  (9, .aload_n 0, 1, 0, 0, 0, 0, 0, []),
  (10, .getfield 9, 3, 1, 1, 4, 60, 1, [4]),
  (13, .aload_n 0, 1, 0, 0, 0, 0, 0, []),
  (14, .getfield 32, 3, 1, 0, 0, 0, 0, [10]),
  (17, .lload_n 1, 1, 1, 0, 0, 0, 0, []),
  (18, .lastore, 1, 0, 0, 0, 0, 0, []),
  (19, .aload_n 0, 1, 0, 0, 0, 0, 0, []),
  (20, .getfield 15, 3, 1, 2, 3, 60, 2, [5]),
  (23, .aload_n 0, 1, 0, 0, 0, 0, 0, []),
  (24, .getfield 32, 3, 1, 0, 0, 0, 0, [10]),
  (27, .iload_n 3, 1, 3, 0, 0, 0, 0, []),
  (28, .iastore, 1, 0, 0, 0, 0, 0, []),
  (29, .aload_n 0, 1, 0, 0, 0, 0, 0, []),
  (30, .getfield 19, 3, 1, 3, 3, 60, 3, [6]),
  (33, .aload_n 0, 1, 0, 0, 0, 0, 0, []),
  (34, .getfield 32, 3, 1, 0, 0, 0, 0, [10]),
  (37, .iload 4, 2, 4, 0, 0, 0, 0, []),
  (39, .iastore, 1, 0, 0, 0, 0, 0, []),
  (40, .aload_n 0, 1, 0, 0, 0, 0, 0, []),
  (41, .dup, 1, 0, 0, 0, 0, 0, []),
  (42, .getfield 32, 3, 1, 0, 0, 0, 0, [10]),
  (45, .iconst 1, 1, 0, 0, 0, 0, 1, []),
  (46, .iadd, 1, 0, 0, 0, 0, 0, []),
  (47, .putfield 32, 3, 1, 0, 0, 0, 0, [10]),
  (50, .return_, 1, 0, 0, 0, 0, 0, [])]
abbrev kKinds_find : Nat := 14
def cKinds_find : List xE := [(0, .bipush 15, 2, 0, 0, 0, 0, 15, []),
  (2, .istore_n 2, 1, 2, 0, 0, 0, 0, []),
  (3, .iload_n 2, 1, 2, 0, 0, 0, 0, []),
  (4, .ifCond .lt 77, 3, 81, 0, 0, 0, 0, []),
  (7, .iconst 0, 1, 0, 0, 0, 0, 0, []),
  (8, .istore_n 3, 1, 3, 0, 0, 0, 0, []),
  (9, .iload_n 3, 1, 3, 0, 0, 0, 0, []),
  (10, .bipush 64, 2, 0, 0, 0, 0, 64, []),
  (12, .if_icmp .ge 16, 3, 28, 0, 0, 0, 0, []),
  (15, .aload_n 0, 1, 0, 0, 0, 0, 0, []),
  (16, .getfield 15, 3, 2, 1, 3, 64, 2, [14]),
  (19, .iload_n 3, 1, 3, 0, 0, 0, 0, []),
  (20, .iconst (-1), 1, 0, 0, 0, 0, (-1), []),
  (21, .iastore, 1, 0, 0, 0, 0, 0, []),
  (22, .iinc 3 1, 3, 3, 0, 0, 0, 1, []),
  (25, .goto (-16), 3, 9, 0, 0, 0, 0, []),
  (28, .aload_n 1, 1, 1, 0, 0, 0, 0, []),
  (29, .iload_n 2, 1, 2, 0, 0, 0, 0, []),
  (30, .invokevirtual 21, 3, 26, 2, 2, 1, 3, [12]),
  (33, .istore_n 3, 1, 3, 0, 0, 0, 0, []),
  (34, .aload_n 1, 1, 1, 0, 0, 0, 0, []),
  (35, .iload_n 2, 1, 2, 0, 0, 0, 0, []),
  (36, .invokevirtual 27, 3, 25, 2, 2, 1, 3, [13]),
  (39, .istore 4, 2, 4, 0, 0, 0, 0, []),
  (41, .iload 4, 2, 4, 0, 0, 0, 0, []),
  (43, .iload_n 3, 1, 3, 0, 0, 0, 0, []),
  (44, .if_icmp .ge 31, 3, 75, 0, 0, 0, 0, []),
  (47, .iload 4, 2, 4, 0, 0, 0, 0, []),
  (49, .sipush 901, 3, 0, 0, 0, 0, 901, []),
  (52, .if_icmp .ge 23, 3, 75, 0, 0, 0, 0, []),
  (55, .aload_n 0, 1, 0, 0, 0, 0, 0, []),
  (56, .getfield 9, 3, 2, 0, 3, 901, 1, [13]),
  (59, .iload 4, 2, 4, 0, 0, 0, 0, []),
  (61, .aload_n 0, 1, 0, 0, 0, 0, 0, []),
  (62, .aload_n 1, 1, 1, 0, 0, 0, 0, []),
  (63, .iload 4, 2, 4, 0, 0, 0, 0, []),
  (65, .invokevirtual 30, 3, 15, 3, 5, 1, 2, [14]),
  (68, .iastore, 1, 0, 0, 0, 0, 0, []),
  (69, .iinc 4 1, 3, 4, 0, 0, 0, 1, []),
  (72, .goto (-31), 3, 41, 0, 0, 0, 0, []),
  (75, .iinc 2 (-1), 3, 2, 0, 0, 0, (-1), []),
  (78, .goto (-75), 3, 3, 0, 0, 0, 0, []),
  (81, .return_, 1, 0, 0, 0, 0, 0, [])]
abbrev kKinds_kindOf : Nat := 15
def cKinds_kindOf : List xE := [(0, .aload_n 0, 1, 0, 0, 0, 0, 0, []),
  (1, .aload_n 1, 1, 1, 0, 0, 0, 0, []),
  (2, .iload_n 2, 1, 2, 0, 0, 0, 0, []),
  (3, .invokevirtual 34, 3, 16, 3, 8, 1, 2, [15]),
  (6, .istore_n 3, 1, 3, 0, 0, 0, 0, []),
  (7, .aload_n 0, 1, 0, 0, 0, 0, 0, []),
  (8, .getfield 15, 3, 2, 1, 3, 64, 2, [14]),
  (11, .iload_n 3, 1, 3, 0, 0, 0, 0, []),
  (12, .iaload, 1, 0, 0, 0, 0, 0, []),
  (13, .istore 4, 2, 4, 0, 0, 0, 0, []),
  (15, .iload 4, 2, 4, 0, 0, 0, 0, []),
  (17, .ifCond .lt 48, 3, 65, 0, 0, 0, 0, []),
  (20, .iload 4, 2, 4, 0, 0, 0, 0, []),
  (22, .sipush 901, 3, 0, 0, 0, 0, 901, []),
  (25, .if_icmp .ge 40, 3, 65, 0, 0, 0, 0, []),
  (28, .aload_n 1, 1, 1, 0, 0, 0, 0, []),
  (29, .iload 4, 2, 4, 0, 0, 0, 0, []),
  (31, .aload_n 1, 1, 1, 0, 0, 0, 0, []),
  (32, .iload_n 2, 1, 2, 0, 0, 0, 0, []),
  (33, .invokevirtual 37, 3, 39, 4, 8, 1, 3, [16]),
  (36, .ifCond .eq 17, 3, 53, 0, 0, 0, 0, []),
  (39, .aload_n 0, 1, 0, 0, 0, 0, 0, []),
  (40, .aload_n 1, 1, 1, 0, 0, 0, 0, []),
  (41, .iload 4, 2, 4, 0, 0, 0, 0, []),
  (43, .iload_n 2, 1, 2, 0, 0, 0, 0, []),
  (44, .invokevirtual 41, 3, 17, 4, 6, 1, 2, [17]),
  (47, .ifCond .eq 6, 3, 53, 0, 0, 0, 0, []),
  (50, .iload 4, 2, 4, 0, 0, 0, 0, []),
  (52, .ireturn, 1, 0, 0, 0, 0, 0, []),
  (53, .aload_n 0, 1, 0, 0, 0, 0, 0, []),
  (54, .getfield 18, 3, 2, 2, 3, 901, 3, [15]),
  (57, .iload 4, 2, 4, 0, 0, 0, 0, []),
  (59, .iaload, 1, 0, 0, 0, 0, 0, []),
  (60, .istore 4, 2, 4, 0, 0, 0, 0, []),
  (62, .goto (-47), 3, 15, 0, 0, 0, 0, []),
  (65, .aload_n 0, 1, 0, 0, 0, 0, 0, []),
  (66, .getfield 18, 3, 2, 2, 3, 901, 3, [15]),
  (69, .iload_n 2, 1, 2, 0, 0, 0, 0, []),
  (70, .aload_n 0, 1, 0, 0, 0, 0, 0, []),
  (71, .getfield 15, 3, 2, 1, 3, 64, 2, [14]),
  (74, .iload_n 3, 1, 3, 0, 0, 0, 0, []),
  (75, .iaload, 1, 0, 0, 0, 0, 0, []),
  (76, .iastore, 1, 0, 0, 0, 0, 0, []),
  (77, .aload_n 0, 1, 0, 0, 0, 0, 0, []),
  (78, .getfield 15, 3, 2, 1, 3, 64, 2, [14]),
  (81, .iload_n 3, 1, 3, 0, 0, 0, 0, []),
  (82, .iload_n 2, 1, 2, 0, 0, 0, 0, []),
  (83, .iastore, 1, 0, 0, 0, 0, 0, []),
  (84, .iload_n 2, 1, 2, 0, 0, 0, 0, []),
  (85, .ireturn, 1, 0, 0, 0, 0, 0, [])]
abbrev kKinds_rowOf : Nat := 16
def cKinds_rowOf : List xE := [(0, .aload_n 1, 1, 1, 0, 0, 0, 0, []),
  (1, .getfield 45, 3, 3, 3, 4, 901, 3, [16]),
  (4, .iload_n 2, 1, 2, 0, 0, 0, 0, []),
  (5, .laload, 1, 0, 0, 0, 0, 0, []),
  (6, .ldc2_w 49, 3, 0, 0, 0, 0, 31, [4]),
  (9, .aload_n 1, 1, 1, 0, 0, 0, 0, []),
  (10, .getfield 51, 3, 3, 4, 4, 901, 4, [17]),
  (13, .iload_n 2, 1, 2, 0, 0, 0, 0, []),
  (14, .laload, 1, 0, 0, 0, 0, 0, []),
  (15, .lmul, 1, 0, 0, 0, 0, 0, []),
  (16, .ladd, 1, 0, 0, 0, 0, 0, []),
  (17, .lstore_n 3, 1, 3, 0, 0, 0, 0, []),
  (18, .aload_n 1, 1, 1, 0, 0, 0, 0, []),
  (19, .iload_n 2, 1, 2, 0, 0, 0, 0, []),
  (20, .invokevirtual 54, 3, 28, 2, 2, 1, 3, [18]),
  (23, .istore 5, 2, 5, 0, 0, 0, 0, []),
  (25, .iconst 0, 1, 0, 0, 0, 0, 0, []),
  (26, .istore 6, 2, 6, 0, 0, 0, 0, []),
  (28, .iload 6, 2, 6, 0, 0, 0, 0, []),
  (30, .iload 5, 2, 5, 0, 0, 0, 0, []),
  (32, .if_icmp .ge 24, 3, 56, 0, 0, 0, 0, []),
  (35, .ldc2_w 49, 3, 0, 0, 0, 0, 31, [4]),
  (38, .lload_n 3, 1, 3, 0, 0, 0, 0, []),
  (39, .lmul, 1, 0, 0, 0, 0, 0, []),
  (40, .aload_n 1, 1, 1, 0, 0, 0, 0, []),
  (41, .iload_n 2, 1, 2, 0, 0, 0, 0, []),
  (42, .iload 6, 2, 6, 0, 0, 0, 0, []),
  (44, .invokevirtual 57, 3, 29, 3, 3, 1, 3, [19]),
  (47, .i2l, 1, 0, 0, 0, 0, 0, []),
  (48, .ladd, 1, 0, 0, 0, 0, 0, []),
  (49, .lstore_n 3, 1, 3, 0, 0, 0, 0, []),
  (50, .iinc 6 1, 3, 6, 0, 0, 0, 1, []),
  (53, .goto (-25), 3, 28, 0, 0, 0, 0, []),
  (56, .aload_n 1, 1, 1, 0, 0, 0, 0, []),
  (57, .getfield 45, 3, 3, 3, 4, 901, 3, [16]),
  (60, .iload_n 2, 1, 2, 0, 0, 0, 0, []),
  (61, .laload, 1, 0, 0, 0, 0, 0, []),
  (62, .invokestatic 61, 3, 0, 1, 2, 1, 0, [20]),
  (65, .istore 6, 2, 6, 0, 0, 0, 0, []),
  (67, .iconst 0, 1, 0, 0, 0, 0, 0, []),
  (68, .istore 7, 2, 7, 0, 0, 0, 0, []),
  (70, .iload 7, 2, 7, 0, 0, 0, 0, []),
  (72, .iload 6, 2, 6, 0, 0, 0, 0, []),
  (74, .if_icmp .ge 25, 3, 99, 0, 0, 0, 0, []),
  (77, .ldc2_w 49, 3, 0, 0, 0, 0, 31, [4]),
  (80, .lload_n 3, 1, 3, 0, 0, 0, 0, []),
  (81, .lmul, 1, 0, 0, 0, 0, 0, []),
  (82, .aload_n 0, 1, 0, 0, 0, 0, 0, []),
  (83, .aload_n 1, 1, 1, 0, 0, 0, 0, []),
  (84, .iload_n 2, 1, 2, 0, 0, 0, 0, []),
  (85, .iload 7, 2, 7, 0, 0, 0, 0, []),
  (87, .invokevirtual 67, 3, 18, 4, 5, 1, 2, [21]),
  (90, .i2l, 1, 0, 0, 0, 0, 0, []),
  (91, .ladd, 1, 0, 0, 0, 0, 0, []),
  (92, .lstore_n 3, 1, 3, 0, 0, 0, 0, []),
  (93, .iinc 7 1, 3, 7, 0, 0, 0, 1, []),
  (96, .goto (-26), 3, 70, 0, 0, 0, 0, []),
  (99, .lload_n 3, 1, 3, 0, 0, 0, 0, []),
  (100, .lload_n 3, 1, 3, 0, 0, 0, 0, []),
  (101, .bipush 32, 2, 0, 0, 0, 0, 32, []),
  (103, .lshr, 1, 0, 0, 0, 0, 0, []),
  (104, .lxor, 1, 0, 0, 0, 0, 0, []),
  (105, .l2i, 1, 0, 0, 0, 0, 0, []),
  (106, .bipush 63, 2, 0, 0, 0, 0, 63, []),
  (108, .iand, 1, 0, 0, 0, 0, 0, []),
  (109, .ireturn, 1, 0, 0, 0, 0, 0, [])]
abbrev kKinds_leadToLike : Nat := 17
def cKinds_leadToLike : List xE := [(0, .aload_n 1, 1, 1, 0, 0, 0, 0, []),
  (1, .getfield 45, 3, 3, 3, 4, 901, 3, [16]),
  (4, .iload_n 3, 1, 3, 0, 0, 0, 0, []),
  (5, .laload, 1, 0, 0, 0, 0, 0, []),
  (6, .invokestatic 61, 3, 0, 1, 2, 1, 0, [20]),
  (9, .istore 4, 2, 4, 0, 0, 0, 0, []),
  (11, .iconst 0, 1, 0, 0, 0, 0, 0, []),
  (12, .istore 5, 2, 5, 0, 0, 0, 0, []),
  (14, .iload 5, 2, 5, 0, 0, 0, 0, []),
  (16, .iload 4, 2, 4, 0, 0, 0, 0, []),
  (18, .if_icmp .ge 30, 3, 48, 0, 0, 0, 0, []),
  (21, .aload_n 0, 1, 0, 0, 0, 0, 0, []),
  (22, .aload_n 1, 1, 1, 0, 0, 0, 0, []),
  (23, .iload_n 2, 1, 2, 0, 0, 0, 0, []),
  (24, .iload 5, 2, 5, 0, 0, 0, 0, []),
  (26, .invokevirtual 67, 3, 18, 4, 5, 1, 2, [21]),
  (29, .aload_n 0, 1, 0, 0, 0, 0, 0, []),
  (30, .aload_n 1, 1, 1, 0, 0, 0, 0, []),
  (31, .iload_n 3, 1, 3, 0, 0, 0, 0, []),
  (32, .iload 5, 2, 5, 0, 0, 0, 0, []),
  (34, .invokevirtual 67, 3, 18, 4, 5, 1, 2, [21]),
  (37, .if_icmp .eq 5, 3, 42, 0, 0, 0, 0, []),
  (40, .iconst 0, 1, 0, 0, 0, 0, 0, []),
  (41, .ireturn, 1, 1, 0, 0, 0, 0, []),
  (42, .iinc 5 1, 3, 5, 0, 0, 0, 1, []),
  (45, .goto (-31), 3, 14, 0, 0, 0, 0, []),
  (48, .iconst 1, 1, 0, 0, 0, 0, 1, []),
  (49, .ireturn, 1, 1, 0, 0, 0, 0, [])]
abbrev kKinds_kindOfChild : Nat := 18
def cKinds_kindOfChild : List xE := [(0, .aload_n 1, 1, 1, 0, 0, 0, 0, []),
  (1, .getfield 71, 3, 3, 6, 3, 901, 6, [18]),
  (4, .iload_n 2, 1, 2, 0, 0, 0, 0, []),
  (5, .iaload, 1, 0, 0, 0, 0, 0, []),
  (6, .iload_n 3, 1, 3, 0, 0, 0, 0, []),
  (7, .iadd, 1, 0, 0, 0, 0, 0, []),
  (8, .istore 4, 2, 4, 0, 0, 0, 0, []),
  (10, .aload_n 1, 1, 1, 0, 0, 0, 0, []),
  (11, .iload 4, 2, 4, 0, 0, 0, 0, []),
  (13, .invokevirtual 74, 3, 24, 2, 2, 1, 3, [22]),
  (16, .ifCond .eq 13, 3, 29, 0, 0, 0, 0, []),
  (19, .aload_n 0, 1, 0, 0, 0, 0, 0, []),
  (20, .getfield 9, 3, 2, 0, 3, 901, 1, [13]),
  (23, .iload 4, 2, 4, 0, 0, 0, 0, []),
  (25, .iaload, 1, 0, 0, 0, 0, 0, []),
  (26, .goto 4, 3, 30, 0, 0, 0, 0, []),
  (29, .iconst (-1), 1, 0, 0, 0, 0, (-1), []),
  (30, .ireturn, 1, 0, 0, 0, 0, 0, [])]
abbrev kKinds_unlikeIn : Nat := 19
def cKinds_unlikeIn : List xE := [(0, .iconst 0, 1, 0, 0, 0, 0, 0, []),
  (1, .istore_n 3, 1, 3, 0, 0, 0, 0, []),
  (2, .iload_n 1, 1, 1, 0, 0, 0, 0, []),
  (3, .istore 4, 2, 4, 0, 0, 0, 0, []),
  (5, .iload 4, 2, 4, 0, 0, 0, 0, []),
  (7, .ifCond .lt 43, 3, 50, 0, 0, 0, 0, []),
  (10, .iload 4, 2, 4, 0, 0, 0, 0, []),
  (12, .iload_n 2, 1, 2, 0, 0, 0, 0, []),
  (13, .if_icmp .ge 37, 3, 50, 0, 0, 0, 0, []),
  (16, .iload 4, 2, 4, 0, 0, 0, 0, []),
  (18, .sipush 901, 3, 0, 0, 0, 0, 901, []),
  (21, .if_icmp .ge 29, 3, 50, 0, 0, 0, 0, []),
  (24, .iload_n 3, 1, 3, 0, 0, 0, 0, []),
  (25, .aload_n 0, 1, 0, 0, 0, 0, 0, []),
  (26, .getfield 9, 3, 2, 0, 3, 901, 1, [13]),
  (29, .iload 4, 2, 4, 0, 0, 0, 0, []),
  (31, .iaload, 1, 0, 0, 0, 0, 0, []),
  (32, .iload 4, 2, 4, 0, 0, 0, 0, []),
  (34, .if_icmp .ne 7, 3, 41, 0, 0, 0, 0, []),
  (37, .iconst 1, 1, 0, 0, 0, 0, 1, []),
  (38, .goto 4, 3, 42, 0, 0, 0, 0, []),
  (41, .iconst 0, 1, 0, 0, 0, 0, 0, []),
  (42, .iadd, 1, 0, 0, 0, 0, 0, []),
  (43, .istore_n 3, 1, 3, 0, 0, 0, 0, []),
  (44, .iinc 4 1, 3, 4, 0, 0, 0, 1, []),
  (47, .goto (-42), 3, 5, 0, 0, 0, 0, []),
  (50, .iload_n 3, 1, 3, 0, 0, 0, 0, []),
  (51, .ireturn, 1, 0, 0, 0, 0, 0, [])]
abbrev kNodes_build : Nat := 20
def cNodes_build : List xE := [(0, .aload_n 0, 1, 0, 0, 0, 0, 0, []),
  (1, .aload_n 1, 1, 1, 0, 0, 0, 0, []),
  (2, .getfield 55, 3, 6, 6, 0, 0, 0, [33]),
  (5, .bipush 16, 2, 0, 0, 0, 0, 16, []),
  (7, .invokestatic 61, 3, 9004, 0, 0, 0, 0, []),
  (10, .putfield 67, 3, 3, 15, 0, 0, 0, [34]),
  (13, .iconst 0, 1, 0, 0, 0, 0, 0, []),
  (14, .istore_n 3, 1, 3, 0, 0, 0, 0, []),
  (15, .iload_n 3, 1, 3, 0, 0, 0, 0, []),
  (16, .aload_n 0, 1, 0, 0, 0, 0, 0, []),
  (17, .getfield 67, 3, 3, 15, 0, 0, 0, [34]),
  (20, .if_icmp .ge 42, 3, 62, 0, 0, 0, 0, []),
  (23, .aload_n 0, 1, 0, 0, 0, 0, 0, []),
  (24, .getfield 52, 3, 3, 14, 3, 16, 14, [32]),
  (27, .iload_n 3, 1, 3, 0, 0, 0, 0, []),
  (28, .aload_n 1, 1, 1, 0, 0, 0, 0, []),
  (29, .getfield 68, 3, 6, 7, 3, 16, 6, [35]),
  (32, .iload_n 3, 1, 3, 0, 0, 0, 0, []),
  (33, .iaload, 1, 0, 0, 0, 0, 0, []),
  (34, .iastore, 1, 0, 0, 0, 0, 0, []),
  (35, .aload_n 0, 1, 0, 0, 0, 0, 0, []),
  (36, .getfield 49, 3, 3, 13, 3, 17, 13, [31]),
  (39, .iload_n 3, 1, 3, 0, 0, 0, 0, []),
  (40, .iconst 1, 1, 0, 0, 0, 0, 1, []),
  (41, .iadd, 1, 0, 0, 0, 0, 0, []),
  (42, .aload_n 0, 1, 0, 0, 0, 0, 0, []),
  (43, .getfield 49, 3, 3, 13, 3, 17, 13, [31]),
  (46, .iload_n 3, 1, 3, 0, 0, 0, 0, []),
  (47, .iaload, 1, 0, 0, 0, 0, 0, []),
  (48, .aload_n 0, 1, 0, 0, 0, 0, 0, []),
  (49, .getfield 52, 3, 3, 14, 3, 16, 14, [32]),
  (52, .iload_n 3, 1, 3, 0, 0, 0, 0, []),
  (53, .iaload, 1, 0, 0, 0, 0, 0, []),
  (54, .iadd, 1, 0, 0, 0, 0, 0, []),
  (55, .iastore, 1, 0, 0, 0, 0, 0, []),
  (56, .iinc 3 1, 3, 3, 0, 0, 0, 1, []),
  (59, .goto (-44), 3, 15, 0, 0, 0, 0, []),
  (62, .aload_n 0, 1, 0, 0, 0, 0, 0, []),
  (63, .iconst 0, 1, 0, 0, 0, 0, 0, []),
  (64, .putfield 69, 3, 3, 0, 0, 0, 0, [36]),
  (67, .aload_n 0, 1, 0, 0, 0, 0, 0, []),
  (68, .iconst 0, 1, 0, 0, 0, 0, 0, []),
  (69, .putfield 72, 3, 3, 16, 0, 0, 0, [37]),
  (72, .aload_n 0, 1, 0, 0, 0, 0, 0, []),
  (73, .lconst 0, 1, 0, 0, 0, 0, 0, []),
  (74, .iconst 0, 1, 0, 0, 0, 0, 0, []),
  (75, .iconst (-1), 1, 0, 0, 0, 0, (-1), []),
  (76, .iconst 0, 1, 0, 0, 0, 0, 0, []),
  (77, .invokevirtual 75, 3, 21, 5, 6, 0, 3, [23]),
  (80, .iconst 0, 1, 0, 0, 0, 0, 0, []),
  (81, .istore_n 3, 1, 3, 0, 0, 0, 0, []),
  (82, .iload_n 3, 1, 3, 0, 0, 0, 0, []),
  (83, .aload_n 0, 1, 0, 0, 0, 0, 0, []),
  (84, .getfield 67, 3, 3, 15, 0, 0, 0, [34]),
  (87, .if_icmp .ge 58, 3, 145, 0, 0, 0, 0, []),
  (90, .aload_n 0, 1, 0, 0, 0, 0, 0, []),
  (91, .getfield 46, 3, 3, 12, 3, 17, 12, [30]),
  (94, .iload_n 3, 1, 3, 0, 0, 0, 0, []),
  (95, .iaload, 1, 0, 0, 0, 0, 0, []),
  (96, .istore 4, 2, 4, 0, 0, 0, 0, []),
  (98, .aload_n 0, 1, 0, 0, 0, 0, 0, []),
  (99, .getfield 69, 3, 3, 0, 0, 0, 0, [36]),
  (102, .istore 5, 2, 5, 0, 0, 0, 0, []),
  (104, .aload_n 0, 1, 0, 0, 0, 0, 0, []),
  (105, .getfield 46, 3, 3, 12, 3, 17, 12, [30]),
  (108, .iload_n 3, 1, 3, 0, 0, 0, 0, []),
  (109, .iconst 1, 1, 0, 0, 0, 0, 1, []),
  (110, .iadd, 1, 0, 0, 0, 0, 0, []),
  (111, .iload 5, 2, 5, 0, 0, 0, 0, []),
  (113, .iastore, 1, 0, 0, 0, 0, 0, []),
  (114, .iload 4, 2, 4, 0, 0, 0, 0, []),
  (116, .istore 6, 2, 6, 0, 0, 0, 0, []),
  (118, .iload 6, 2, 6, 0, 0, 0, 0, []),
  (120, .iload 5, 2, 5, 0, 0, 0, 0, []),
  (122, .if_icmp .ge 17, 3, 139, 0, 0, 0, 0, []),
  (125, .aload_n 0, 1, 0, 0, 0, 0, 0, []),
  (126, .iload 6, 2, 6, 0, 0, 0, 0, []),
  (128, .iload_n 3, 1, 3, 0, 0, 0, 0, []),
  (129, .aload_n 2, 1, 2, 0, 0, 0, 0, []),
  (130, .invokevirtual 79, 3, 22, 4, 14, 0, 3, [24]),
  (133, .iinc 6 1, 3, 6, 0, 0, 0, 1, []),
  (136, .goto (-18), 3, 118, 0, 0, 0, 0, []),
  (139, .iinc 3 1, 3, 3, 0, 0, 0, 1, []),
  (142, .goto (-60), 3, 82, 0, 0, 0, 0, []),
  (145, .return_, 1, 0, 0, 0, 0, 0, [])]
abbrev kNodes_append : Nat := 21
def cNodes_append : List xE := [(0, .aload_n 0, 1, 0, 0, 0, 0, 0, []),
  (1, .getfield 69, 3, 3, 0, 0, 0, 0, [36]),
  (4, .sipush 901, 3, 0, 0, 0, 0, 901, []),
  (7, .if_icmp .lt 4, 3, 11, 0, 0, 0, 0, []),
  (10, .return_, 1, 0, 0, 0, 0, 0, []),
  (11, .aload_n 0, 1, 0, 0, 0, 0, 0, []),
  (12, .getfield 9, 3, 3, 1, 4, 901, 1, [19]),
  (15, .aload_n 0, 1, 0, 0, 0, 0, 0, []),
  (16, .getfield 69, 3, 3, 0, 0, 0, 0, [36]),
  (19, .lload_n 1, 1, 1, 0, 0, 0, 0, []),
  (20, .lastore, 1, 0, 0, 0, 0, 0, []),
  (21, .aload_n 0, 1, 0, 0, 0, 0, 0, []),
  (22, .getfield 15, 3, 3, 2, 3, 901, 2, [20]),
  (25, .aload_n 0, 1, 0, 0, 0, 0, 0, []),
  (26, .getfield 69, 3, 3, 0, 0, 0, 0, [36]),
  (29, .iload_n 3, 1, 3, 0, 0, 0, 0, []),
  (30, .iastore, 1, 0, 0, 0, 0, 0, []),
  (31, .aload_n 0, 1, 0, 0, 0, 0, 0, []),
  (32, .getfield 25, 3, 3, 5, 3, 901, 5, [23]),
  (35, .aload_n 0, 1, 0, 0, 0, 0, 0, []),
  (36, .getfield 69, 3, 3, 0, 0, 0, 0, [36]),
  (39, .iload 4, 2, 4, 0, 0, 0, 0, []),
  (41, .iastore, 1, 0, 0, 0, 0, 0, []),
  (42, .aload_n 0, 1, 0, 0, 0, 0, 0, []),
  (43, .getfield 43, 3, 3, 11, 3, 901, 11, [29]),
  (46, .aload_n 0, 1, 0, 0, 0, 0, 0, []),
  (47, .getfield 69, 3, 3, 0, 0, 0, 0, [36]),
  (50, .iload 5, 2, 5, 0, 0, 0, 0, []),
  (52, .iastore, 1, 0, 0, 0, 0, 0, []),
  (53, .aload_n 0, 1, 0, 0, 0, 0, 0, []),
  (54, .getfield 19, 3, 3, 3, 4, 901, 3, [21]),
  (57, .aload_n 0, 1, 0, 0, 0, 0, 0, []),
  (58, .getfield 69, 3, 3, 0, 0, 0, 0, [36]),
  (61, .lconst 0, 1, 0, 0, 0, 0, 0, []),
  (62, .lastore, 1, 0, 0, 0, 0, 0, []),
  (63, .aload_n 0, 1, 0, 0, 0, 0, 0, []),
  (64, .getfield 22, 3, 3, 4, 4, 901, 4, [22]),
  (67, .aload_n 0, 1, 0, 0, 0, 0, 0, []),
  (68, .getfield 69, 3, 3, 0, 0, 0, 0, [36]),
  (71, .lconst 0, 1, 0, 0, 0, 0, 0, []),
  (72, .lastore, 1, 0, 0, 0, 0, 0, []),
  (73, .aload_n 0, 1, 0, 0, 0, 0, 0, []),
  (74, .dup, 1, 0, 0, 0, 0, 0, []),
  (75, .getfield 69, 3, 3, 0, 0, 0, 0, [36]),
  (78, .iconst 1, 1, 0, 0, 0, 0, 1, []),
  (79, .iadd, 1, 0, 0, 0, 0, 0, []),
  (80, .putfield 69, 3, 3, 0, 0, 0, 0, [36]),
  (83, .return_, 1, 0, 0, 0, 0, 0, [])]
abbrev kNodes_fill : Nat := 22
def cNodes_fill : List xE := [(0, .iconst 1, 1, 0, 0, 0, 0, 1, []),
  (1, .aload_n 0, 1, 0, 0, 0, 0, 0, []),
  (2, .getfield 52, 3, 3, 14, 3, 16, 14, [32]),
  (5, .iload_n 2, 1, 2, 0, 0, 0, 0, []),
  (6, .iaload, 1, 0, 0, 0, 0, 0, []),
  (7, .ishl, 1, 0, 0, 0, 0, 0, []),
  (8, .istore 4, 2, 4, 0, 0, 0, 0, []),
  (10, .bipush 32, 2, 0, 0, 0, 0, 32, []),
  (12, .aload_n 0, 1, 0, 0, 0, 0, 0, []),
  (13, .getfield 49, 3, 3, 13, 3, 17, 13, [31]),
  (16, .iload_n 2, 1, 2, 0, 0, 0, 0, []),
  (17, .iconst 1, 1, 0, 0, 0, 0, 1, []),
  (18, .iadd, 1, 0, 0, 0, 0, 0, []),
  (19, .iaload, 1, 0, 0, 0, 0, 0, []),
  (20, .isub, 1, 0, 0, 0, 0, 0, []),
  (21, .istore 5, 2, 5, 0, 0, 0, 0, []),
  (23, .aload_n 0, 1, 0, 0, 0, 0, 0, []),
  (24, .getfield 43, 3, 3, 11, 3, 901, 11, [29]),
  (27, .iload_n 1, 1, 1, 0, 0, 0, 0, []),
  (28, .iaload, 1, 0, 0, 0, 0, 0, []),
  (29, .istore 6, 2, 6, 0, 0, 0, 0, []),
  (31, .bipush (-2), 2, 0, 0, 0, 0, (-2), []),
  (33, .istore 7, 2, 7, 0, 0, 0, 0, []),
  (35, .aload_n 0, 1, 0, 0, 0, 0, 0, []),
  (36, .getfield 28, 3, 3, 6, 3, 901, 6, [24]),
  (39, .iload_n 1, 1, 1, 0, 0, 0, 0, []),
  (40, .aload_n 0, 1, 0, 0, 0, 0, 0, []),
  (41, .getfield 69, 3, 3, 0, 0, 0, 0, [36]),
  (44, .iastore, 1, 0, 0, 0, 0, 0, []),
  (45, .aload_n 0, 1, 0, 0, 0, 0, 0, []),
  (46, .getfield 34, 3, 3, 8, 3, 902, 8, [26]),
  (49, .iload_n 1, 1, 1, 0, 0, 0, 0, []),
  (50, .aload_n 0, 1, 0, 0, 0, 0, 0, []),
  (51, .getfield 72, 3, 3, 16, 0, 0, 0, [37]),
  (54, .iastore, 1, 0, 0, 0, 0, 0, []),
  (55, .iconst 1, 1, 0, 0, 0, 0, 1, []),
  (56, .istore 8, 2, 8, 0, 0, 0, 0, []),
  (58, .iconst 0, 1, 0, 0, 0, 0, 0, []),
  (59, .istore 9, 2, 9, 0, 0, 0, 0, []),
  (61, .iload 9, 2, 9, 0, 0, 0, 0, []),
  (63, .iload 4, 2, 4, 0, 0, 0, 0, []),
  (65, .if_icmp .ge 151, 3, 216, 0, 0, 0, 0, []),
  (68, .aload_n 0, 1, 0, 0, 0, 0, 0, []),
  (69, .getfield 9, 3, 3, 1, 4, 901, 1, [19]),
  (72, .iload_n 1, 1, 1, 0, 0, 0, 0, []),
  (73, .laload, 1, 0, 0, 0, 0, 0, []),
  (74, .iload 9, 2, 9, 0, 0, 0, 0, []),
  (76, .i2l, 1, 0, 0, 0, 0, 0, []),
  (77, .iload 5, 2, 5, 0, 0, 0, 0, []),
  (79, .lshl, 1, 0, 0, 0, 0, 0, []),
  (80, .ladd, 1, 0, 0, 0, 0, 0, []),
  (81, .lstore 10, 2, 10, 0, 0, 0, 0, []),
  (83, .aload_n 3, 1, 3, 0, 0, 0, 0, []),
  (84, .lload 10, 2, 10, 0, 0, 0, 0, []),
  (86, .iload 6, 2, 6, 0, 0, 0, 0, []),
  (88, .invokevirtual 83, 3, 49, 3, 5, 1, 5, [25]),
  (91, .istore 6, 2, 6, 0, 0, 0, 0, []),
  (93, .aload_n 3, 1, 3, 0, 0, 0, 0, []),
  (94, .getfield 89, 3, 5, 2, 4, 121, 2, [38]),
  (97, .iload 6, 2, 6, 0, 0, 0, 0, []),
  (99, .laload, 1, 0, 0, 0, 0, 0, []),
  (100, .lload 10, 2, 10, 0, 0, 0, 0, []),
  (102, .lsub, 1, 0, 0, 0, 0, 0, []),
  (103, .lconst 1, 1, 0, 0, 0, 0, 1, []),
  (104, .ladd, 1, 0, 0, 0, 0, 0, []),
  (105, .iload 5, 2, 5, 0, 0, 0, 0, []),
  (107, .lshr, 1, 0, 0, 0, 0, 0, []),
  (108, .lstore 12, 2, 12, 0, 0, 0, 0, []),
  (110, .iconst 1, 1, 0, 0, 0, 0, 1, []),
  (111, .istore 8, 2, 8, 0, 0, 0, 0, []),
  (113, .lload 12, 2, 12, 0, 0, 0, 0, []),
  (115, .lconst 0, 1, 0, 0, 0, 0, 0, []),
  (116, .lcmp, 4, 148, 4, 0, 0, 0, []),
  (120, .aload_n 0, 1, 0, 0, 0, 0, 0, []),
  (121, .getfield 19, 3, 3, 3, 4, 901, 3, [21]),
  (124, .iload_n 1, 1, 1, 0, 0, 0, 0, []),
  (125, .dup2, 1, 0, 0, 0, 0, 0, []),
  (126, .laload, 1, 0, 0, 0, 0, 0, []),
  (127, .lconst 1, 1, 0, 0, 0, 0, 1, []),
  (128, .iload 9, 2, 9, 0, 0, 0, 0, []),
  (130, .lshl, 1, 0, 0, 0, 0, 0, []),
  (131, .lor, 1, 0, 0, 0, 0, 0, []),
  (132, .lastore, 1, 0, 0, 0, 0, 0, []),
  (133, .aload_n 0, 1, 0, 0, 0, 0, 0, []),
  (134, .lload 10, 2, 10, 0, 0, 0, 0, []),
  (136, .iload_n 2, 1, 2, 0, 0, 0, 0, []),
  (137, .iconst 1, 1, 0, 0, 0, 0, 1, []),
  (138, .iadd, 1, 0, 0, 0, 0, 0, []),
  (139, .iload_n 1, 1, 1, 0, 0, 0, 0, []),
  (140, .iload 6, 2, 6, 0, 0, 0, 0, []),
  (142, .invokevirtual 75, 3, 21, 5, 6, 0, 3, [23]),
  (145, .goto 61, 3, 206, 0, 0, 0, 0, []),
  (148, .aload_n 3, 1, 3, 0, 0, 0, 0, []),
  (149, .getfield 92, 3, 5, 3, 3, 121, 3, [39]),
  (152, .iload 6, 2, 6, 0, 0, 0, 0, []),
  (154, .iaload, 1, 0, 0, 0, 0, 0, []),
  (155, .iload 7, 2, 7, 0, 0, 0, 0, []),
  (157, .if_icmp .eq 38, 3, 195, 0, 0, 0, 0, []),
  (160, .aload_n 3, 1, 3, 0, 0, 0, 0, []),
  (161, .getfield 92, 3, 5, 3, 3, 121, 3, [39]),
  (164, .iload 6, 2, 6, 0, 0, 0, 0, []),
  (166, .iaload, 1, 0, 0, 0, 0, 0, []),
  (167, .istore 7, 2, 7, 0, 0, 0, 0, []),
  (169, .aload_n 0, 1, 0, 0, 0, 0, 0, []),
  (170, .getfield 22, 3, 3, 4, 4, 901, 4, [22]),
  (173, .iload_n 1, 1, 1, 0, 0, 0, 0, []),
  (174, .dup2, 1, 0, 0, 0, 0, 0, []),
  (175, .laload, 1, 0, 0, 0, 0, 0, []),
  (176, .lconst 1, 1, 0, 0, 0, 0, 1, []),
  (177, .iload 9, 2, 9, 0, 0, 0, 0, []),
  (179, .lshl, 1, 0, 0, 0, 0, 0, []),
  (180, .lor, 1, 0, 0, 0, 0, 0, []),
  (181, .lastore, 1, 0, 0, 0, 0, 0, []),
  (182, .aload_n 0, 1, 0, 0, 0, 0, 0, []),
  (183, .iload 7, 2, 7, 0, 0, 0, 0, []),
  (185, .aload_n 3, 1, 3, 0, 0, 0, 0, []),
  (186, .getfield 95, 3, 5, 4, 3, 121, 4, [40]),
  (189, .iload 6, 2, 6, 0, 0, 0, 0, []),
  (191, .iaload, 1, 0, 0, 0, 0, 0, []),
  (192, .invokevirtual 98, 3, 23, 3, 3, 0, 3, [26]),
  (195, .lload 12, 2, 12, 0, 0, 0, 0, []),
  (197, .iload 4, 2, 4, 0, 0, 0, 0, []),
  (199, .i2l, 1, 0, 0, 0, 0, 0, []),
  (200, .invokestatic 102, 3, 9006, 0, 0, 0, 0, []),
  (203, .l2i, 1, 0, 0, 0, 0, 0, []),
  (204, .istore 8, 2, 8, 0, 0, 0, 0, []),
  (206, .iload 9, 2, 9, 0, 0, 0, 0, []),
  (208, .iload 8, 2, 8, 0, 0, 0, 0, []),
  (210, .iadd, 1, 0, 0, 0, 0, 0, []),
  (211, .istore 9, 2, 9, 0, 0, 0, 0, []),
  (213, .goto (-152), 3, 61, 0, 0, 0, 0, []),
  (216, .aload_n 0, 1, 0, 0, 0, 0, 0, []),
  (217, .getfield 34, 3, 3, 8, 3, 902, 8, [26]),
  (220, .iload_n 1, 1, 1, 0, 0, 0, 0, []),
  (221, .iconst 1, 1, 0, 0, 0, 0, 1, []),
  (222, .iadd, 1, 0, 0, 0, 0, 0, []),
  (223, .aload_n 0, 1, 0, 0, 0, 0, 0, []),
  (224, .getfield 72, 3, 3, 16, 0, 0, 0, [37]),
  (227, .iastore, 1, 0, 0, 0, 0, 0, []),
  (228, .return_, 1, 0, 0, 0, 0, 0, [])]
abbrev kNodes_store : Nat := 23
def cNodes_store : List xE := [(0, .aload_n 0, 1, 0, 0, 0, 0, 0, []),
  (1, .getfield 72, 3, 3, 16, 0, 0, 0, [37]),
  (4, .sipush 2837, 3, 0, 0, 0, 0, 2837, []),
  (7, .if_icmp .ge 33, 3, 40, 0, 0, 0, 0, []),
  (10, .aload_n 0, 1, 0, 0, 0, 0, 0, []),
  (11, .getfield 37, 3, 3, 9, 3, 2837, 9, [27]),
  (14, .aload_n 0, 1, 0, 0, 0, 0, 0, []),
  (15, .getfield 72, 3, 3, 16, 0, 0, 0, [37]),
  (18, .iload_n 1, 1, 1, 0, 0, 0, 0, []),
  (19, .iastore, 1, 0, 0, 0, 0, 0, []),
  (20, .aload_n 0, 1, 0, 0, 0, 0, 0, []),
  (21, .getfield 40, 3, 3, 10, 3, 2837, 10, [28]),
  (24, .aload_n 0, 1, 0, 0, 0, 0, 0, []),
  (25, .getfield 72, 3, 3, 16, 0, 0, 0, [37]),
  (28, .iload_n 2, 1, 2, 0, 0, 0, 0, []),
  (29, .iastore, 1, 0, 0, 0, 0, 0, []),
  (30, .aload_n 0, 1, 0, 0, 0, 0, 0, []),
  (31, .dup, 1, 0, 0, 0, 0, 0, []),
  (32, .getfield 72, 3, 3, 16, 0, 0, 0, [37]),
  (35, .iconst 1, 1, 0, 0, 0, 0, 1, []),
  (36, .iadd, 1, 0, 0, 0, 0, 0, []),
  (37, .putfield 72, 3, 3, 16, 0, 0, 0, [37]),
  (40, .return_, 1, 0, 0, 0, 0, 0, [])]
abbrev kNodes_has : Nat := 24
def cNodes_has : List xE := [(0, .iload_n 1, 1, 1, 0, 0, 0, 0, []),
  (1, .ifCond .lt 22, 3, 23, 0, 0, 0, 0, []),
  (4, .iload_n 1, 1, 1, 0, 0, 0, 0, []),
  (5, .aload_n 0, 1, 0, 0, 0, 0, 0, []),
  (6, .getfield 69, 3, 3, 0, 0, 0, 0, [36]),
  (9, .if_icmp .ge 14, 3, 23, 0, 0, 0, 0, []),
  (12, .iload_n 1, 1, 1, 0, 0, 0, 0, []),
  (13, .sipush 901, 3, 0, 0, 0, 0, 901, []),
  (16, .if_icmp .ge 7, 3, 23, 0, 0, 0, 0, []),
  (19, .iconst 1, 1, 0, 0, 0, 0, 1, []),
  (20, .goto 4, 3, 24, 0, 0, 0, 0, []),
  (23, .iconst 0, 1, 0, 0, 0, 0, 0, []),
  (24, .ireturn, 1, 1, 0, 0, 0, 0, [])]
abbrev kNodes_startOfLevel : Nat := 25
def cNodes_startOfLevel : List xE := [(0, .iload_n 1, 1, 1, 0, 0, 0, 0, []),
  (1, .ifCond .lt 20, 3, 21, 0, 0, 0, 0, []),
  (4, .iload_n 1, 1, 1, 0, 0, 0, 0, []),
  (5, .aload_n 0, 1, 0, 0, 0, 0, 0, []),
  (6, .getfield 67, 3, 3, 15, 0, 0, 0, [34]),
  (9, .if_icmp .ge 12, 3, 21, 0, 0, 0, 0, []),
  (12, .aload_n 0, 1, 0, 0, 0, 0, 0, []),
  (13, .getfield 46, 3, 3, 12, 3, 17, 12, [30]),
  (16, .iload_n 1, 1, 1, 0, 0, 0, 0, []),
  (17, .iaload, 1, 0, 0, 0, 0, 0, []),
  (18, .goto 7, 3, 25, 0, 0, 0, 0, []),
  (21, .aload_n 0, 1, 0, 0, 0, 0, 0, []),
  (22, .getfield 69, 3, 3, 0, 0, 0, 0, [36]),
  (25, .ireturn, 1, 0, 0, 0, 0, 0, [])]
abbrev kNodes_behindLevel : Nat := 26
def cNodes_behindLevel : List xE := [(0, .iload_n 1, 1, 1, 0, 0, 0, 0, []),
  (1, .ifCond .lt 24, 3, 25, 0, 0, 0, 0, []),
  (4, .iload_n 1, 1, 1, 0, 0, 0, 0, []),
  (5, .iconst 1, 1, 0, 0, 0, 0, 1, []),
  (6, .iadd, 1, 0, 0, 0, 0, 0, []),
  (7, .aload_n 0, 1, 0, 0, 0, 0, 0, []),
  (8, .getfield 67, 3, 3, 15, 0, 0, 0, [34]),
  (11, .if_icmp .ge 14, 3, 25, 0, 0, 0, 0, []),
  (14, .aload_n 0, 1, 0, 0, 0, 0, 0, []),
  (15, .getfield 46, 3, 3, 12, 3, 17, 12, [30]),
  (18, .iload_n 1, 1, 1, 0, 0, 0, 0, []),
  (19, .iconst 1, 1, 0, 0, 0, 0, 1, []),
  (20, .iadd, 1, 0, 0, 0, 0, 0, []),
  (21, .iaload, 1, 0, 0, 0, 0, 0, []),
  (22, .goto 7, 3, 29, 0, 0, 0, 0, []),
  (25, .aload_n 0, 1, 0, 0, 0, 0, 0, []),
  (26, .getfield 69, 3, 3, 0, 0, 0, 0, [36]),
  (29, .ireturn, 1, 0, 0, 0, 0, 0, [])]
abbrev kNodes_slotsOf : Nat := 27
def cNodes_slotsOf : List xE := [(0, .aload_n 0, 1, 0, 0, 0, 0, 0, []),
  (1, .iload_n 1, 1, 1, 0, 0, 0, 0, []),
  (2, .invokevirtual 105, 3, 24, 2, 2, 1, 3, [27]),
  (5, .ifCond .eq 19, 3, 24, 0, 0, 0, 0, []),
  (8, .iconst 1, 1, 0, 0, 0, 0, 1, []),
  (9, .aload_n 0, 1, 0, 0, 0, 0, 0, []),
  (10, .getfield 52, 3, 3, 14, 3, 16, 14, [32]),
  (13, .aload_n 0, 1, 0, 0, 0, 0, 0, []),
  (14, .getfield 15, 3, 3, 2, 3, 901, 2, [20]),
  (17, .iload_n 1, 1, 1, 0, 0, 0, 0, []),
  (18, .iaload, 1, 0, 0, 0, 0, 0, []),
  (19, .iaload, 1, 0, 0, 0, 0, 0, []),
  (20, .ishl, 1, 0, 0, 0, 0, 0, []),
  (21, .goto 4, 3, 25, 0, 0, 0, 0, []),
  (24, .iconst 0, 1, 0, 0, 0, 0, 0, []),
  (25, .ireturn, 1, 0, 0, 0, 0, 0, [])]
abbrev kNodes_storedBy : Nat := 28
def cNodes_storedBy : List xE := [(0, .aload_n 0, 1, 0, 0, 0, 0, 0, []),
  (1, .iload_n 1, 1, 1, 0, 0, 0, 0, []),
  (2, .invokevirtual 105, 3, 24, 2, 2, 1, 3, [27]),
  (5, .ifCond .eq 21, 3, 26, 0, 0, 0, 0, []),
  (8, .aload_n 0, 1, 0, 0, 0, 0, 0, []),
  (9, .getfield 34, 3, 3, 8, 3, 902, 8, [26]),
  (12, .iload_n 1, 1, 1, 0, 0, 0, 0, []),
  (13, .iconst 1, 1, 0, 0, 0, 0, 1, []),
  (14, .iadd, 1, 0, 0, 0, 0, 0, []),
  (15, .iaload, 1, 0, 0, 0, 0, 0, []),
  (16, .aload_n 0, 1, 0, 0, 0, 0, 0, []),
  (17, .getfield 34, 3, 3, 8, 3, 902, 8, [26]),
  (20, .iload_n 1, 1, 1, 0, 0, 0, 0, []),
  (21, .iaload, 1, 0, 0, 0, 0, 0, []),
  (22, .isub, 1, 0, 0, 0, 0, 0, []),
  (23, .goto 4, 3, 27, 0, 0, 0, 0, []),
  (26, .iconst 0, 1, 0, 0, 0, 0, 0, []),
  (27, .ireturn, 1, 0, 0, 0, 0, 0, [])]
abbrev kNodes_storedAt : Nat := 29
def cNodes_storedAt : List xE := [(0, .aload_n 0, 1, 0, 0, 0, 0, 0, []),
  (1, .iload_n 1, 1, 1, 0, 0, 0, 0, []),
  (2, .invokevirtual 105, 3, 24, 2, 2, 1, 3, [27]),
  (5, .ifCond .eq 42, 3, 47, 0, 0, 0, 0, []),
  (8, .iload_n 2, 1, 2, 0, 0, 0, 0, []),
  (9, .ifCond .lt 38, 3, 47, 0, 0, 0, 0, []),
  (12, .iload_n 2, 1, 2, 0, 0, 0, 0, []),
  (13, .aload_n 0, 1, 0, 0, 0, 0, 0, []),
  (14, .getfield 34, 3, 3, 8, 3, 902, 8, [26]),
  (17, .iload_n 1, 1, 1, 0, 0, 0, 0, []),
  (18, .iconst 1, 1, 0, 0, 0, 0, 1, []),
  (19, .iadd, 1, 0, 0, 0, 0, 0, []),
  (20, .iaload, 1, 0, 0, 0, 0, 0, []),
  (21, .aload_n 0, 1, 0, 0, 0, 0, 0, []),
  (22, .getfield 34, 3, 3, 8, 3, 902, 8, [26]),
  (25, .iload_n 1, 1, 1, 0, 0, 0, 0, []),
  (26, .iaload, 1, 0, 0, 0, 0, 0, []),
  (27, .isub, 1, 0, 0, 0, 0, 0, []),
  (28, .if_icmp .ge 19, 3, 47, 0, 0, 0, 0, []),
  (31, .aload_n 0, 1, 0, 0, 0, 0, 0, []),
  (32, .getfield 37, 3, 3, 9, 3, 2837, 9, [27]),
  (35, .aload_n 0, 1, 0, 0, 0, 0, 0, []),
  (36, .getfield 34, 3, 3, 8, 3, 902, 8, [26]),
  (39, .iload_n 1, 1, 1, 0, 0, 0, 0, []),
  (40, .iaload, 1, 0, 0, 0, 0, 0, []),
  (41, .iload_n 2, 1, 2, 0, 0, 0, 0, []),
  (42, .iadd, 1, 0, 0, 0, 0, 0, []),
  (43, .iaload, 1, 0, 0, 0, 0, 0, []),
  (44, .goto 5, 3, 49, 0, 0, 0, 0, []),
  (47, .bipush (-2), 2, 0, 0, 0, 0, (-2), []),
  (49, .ireturn, 1, 0, 0, 0, 0, 0, [])]
abbrev kNodes_storedIn : Nat := 30
def cNodes_storedIn : List xE := [(0, .iload_n 1, 1, 1, 0, 0, 0, 0, []),
  (1, .ifCond .lt 31, 3, 32, 0, 0, 0, 0, []),
  (4, .iload_n 1, 1, 1, 0, 0, 0, 0, []),
  (5, .iload_n 2, 1, 2, 0, 0, 0, 0, []),
  (6, .if_icmp .ge 26, 3, 32, 0, 0, 0, 0, []),
  (9, .iload_n 2, 1, 2, 0, 0, 0, 0, []),
  (10, .sipush 901, 3, 0, 0, 0, 0, 901, []),
  (13, .if_icmp .gt 19, 3, 32, 0, 0, 0, 0, []),
  (16, .aload_n 0, 1, 0, 0, 0, 0, 0, []),
  (17, .getfield 34, 3, 3, 8, 3, 902, 8, [26]),
  (20, .iload_n 2, 1, 2, 0, 0, 0, 0, []),
  (21, .iaload, 1, 0, 0, 0, 0, 0, []),
  (22, .aload_n 0, 1, 0, 0, 0, 0, 0, []),
  (23, .getfield 34, 3, 3, 8, 3, 902, 8, [26]),
  (26, .iload_n 1, 1, 1, 0, 0, 0, 0, []),
  (27, .iaload, 1, 0, 0, 0, 0, 0, []),
  (28, .isub, 1, 0, 0, 0, 0, 0, []),
  (29, .goto 4, 3, 33, 0, 0, 0, 0, []),
  (32, .iconst 0, 1, 0, 0, 0, 0, 0, []),
  (33, .ireturn, 1, 0, 0, 0, 0, 0, [])]
abbrev kNodes_childAt : Nat := 31
def cNodes_childAt : List xE := [(0, .aload_n 0, 1, 0, 0, 0, 0, 0, []),
  (1, .iload_n 1, 1, 1, 0, 0, 0, 0, []),
  (2, .invokevirtual 105, 3, 24, 2, 2, 1, 3, [27]),
  (5, .ifCond .eq 31, 3, 36, 0, 0, 0, 0, []),
  (8, .iload_n 2, 1, 2, 0, 0, 0, 0, []),
  (9, .ifCond .lt 27, 3, 36, 0, 0, 0, 0, []),
  (12, .iload_n 2, 1, 2, 0, 0, 0, 0, []),
  (13, .aload_n 0, 1, 0, 0, 0, 0, 0, []),
  (14, .iload_n 1, 1, 1, 0, 0, 0, 0, []),
  (15, .invokevirtual 109, 3, 27, 2, 2, 1, 3, [28]),
  (18, .if_icmp .ge 18, 3, 36, 0, 0, 0, 0, []),
  (21, .aload_n 0, 1, 0, 0, 0, 0, 0, []),
  (22, .getfield 19, 3, 3, 3, 4, 901, 3, [21]),
  (25, .iload_n 1, 1, 1, 0, 0, 0, 0, []),
  (26, .laload, 1, 0, 0, 0, 0, 0, []),
  (27, .lconst 1, 1, 0, 0, 0, 0, 1, []),
  (28, .iload_n 2, 1, 2, 0, 0, 0, 0, []),
  (29, .lshl, 1, 0, 0, 0, 0, 0, []),
  (30, .land, 1, 0, 0, 0, 0, 0, []),
  (31, .lconst 0, 1, 0, 0, 0, 0, 0, []),
  (32, .lcmp, 4, 38, 1, 0, 0, 0, []),
  (36, .iconst (-1), 1, 0, 0, 0, 0, (-1), []),
  (37, .ireturn, 1, 0, 0, 0, 0, 0, []),
  (38, .aload_n 0, 1, 0, 0, 0, 0, 0, []),
  (39, .getfield 28, 3, 3, 6, 3, 901, 6, [24]),
  (42, .iload_n 1, 1, 1, 0, 0, 0, 0, []),
  (43, .iaload, 1, 0, 0, 0, 0, 0, []),
  (44, .aload_n 0, 1, 0, 0, 0, 0, 0, []),
  (45, .getfield 19, 3, 3, 3, 4, 901, 3, [21]),
  (48, .iload_n 1, 1, 1, 0, 0, 0, 0, []),
  (49, .laload, 1, 0, 0, 0, 0, 0, []),
  (50, .lconst 1, 1, 0, 0, 0, 0, 1, []),
  (51, .iload_n 2, 1, 2, 0, 0, 0, 0, []),
  (52, .lshl, 1, 0, 0, 0, 0, 0, []),
  (53, .lconst 1, 1, 0, 0, 0, 0, 1, []),
  (54, .lsub, 1, 0, 0, 0, 0, 0, []),
  (55, .land, 1, 0, 0, 0, 0, 0, []),
  (56, .invokestatic 113, 3, 0, 1, 2, 1, 0, [29]),
  (59, .iadd, 1, 0, 0, 0, 0, 0, []),
  (60, .ireturn, 1, 0, 0, 0, 0, 0, [])]
abbrev kNodes_placeAt : Nat := 32
def cNodes_placeAt : List xE := [(0, .aload_n 0, 1, 0, 0, 0, 0, 0, []),
  (1, .getfield 22, 3, 3, 4, 4, 901, 4, [22]),
  (4, .iload_n 1, 1, 1, 0, 0, 0, 0, []),
  (5, .laload, 1, 0, 0, 0, 0, 0, []),
  (6, .ldc2_w 119, 3, 0, 0, 0, 0, 2, [5]),
  (9, .iload_n 2, 1, 2, 0, 0, 0, 0, []),
  (10, .lshl, 1, 0, 0, 0, 0, 0, []),
  (11, .lconst 1, 1, 0, 0, 0, 0, 1, []),
  (12, .lsub, 1, 0, 0, 0, 0, 0, []),
  (13, .land, 1, 0, 0, 0, 0, 0, []),
  (14, .invokestatic 113, 3, 0, 1, 2, 1, 0, [29]),
  (17, .iconst 1, 1, 0, 0, 0, 0, 1, []),
  (18, .isub, 1, 0, 0, 0, 0, 0, []),
  (19, .ireturn, 1, 0, 0, 0, 0, 0, [])]
abbrev kNodes_leafHop : Nat := 33
def cNodes_leafHop : List xE := [(0, .aload_n 0, 1, 0, 0, 0, 0, 0, []),
  (1, .iload_n 1, 1, 1, 0, 0, 0, 0, []),
  (2, .invokevirtual 105, 3, 24, 2, 2, 1, 3, [27]),
  (5, .ifCond .eq 16, 3, 21, 0, 0, 0, 0, []),
  (8, .iload_n 2, 1, 2, 0, 0, 0, 0, []),
  (9, .ifCond .lt 12, 3, 21, 0, 0, 0, 0, []),
  (12, .iload_n 2, 1, 2, 0, 0, 0, 0, []),
  (13, .aload_n 0, 1, 0, 0, 0, 0, 0, []),
  (14, .iload_n 1, 1, 1, 0, 0, 0, 0, []),
  (15, .invokevirtual 109, 3, 27, 2, 2, 1, 3, [28]),
  (18, .if_icmp .lt 5, 3, 23, 0, 0, 0, 0, []),
  (21, .iconst (-1), 1, 0, 0, 0, 0, (-1), []),
  (22, .ireturn, 1, 0, 0, 0, 0, 0, []),
  (23, .aload_n 0, 1, 0, 0, 0, 0, 0, []),
  (24, .getfield 34, 3, 3, 8, 3, 902, 8, [26]),
  (27, .iload_n 1, 1, 1, 0, 0, 0, 0, []),
  (28, .iaload, 1, 0, 0, 0, 0, 0, []),
  (29, .aload_n 0, 1, 0, 0, 0, 0, 0, []),
  (30, .iload_n 1, 1, 1, 0, 0, 0, 0, []),
  (31, .iload_n 2, 1, 2, 0, 0, 0, 0, []),
  (32, .invokevirtual 121, 3, 32, 3, 3, 1, 3, [30]),
  (35, .iadd, 1, 0, 0, 0, 0, 0, []),
  (36, .istore_n 3, 1, 3, 0, 0, 0, 0, []),
  (37, .iload_n 3, 1, 3, 0, 0, 0, 0, []),
  (38, .ifCond .lt 20, 3, 58, 0, 0, 0, 0, []),
  (41, .iload_n 3, 1, 3, 0, 0, 0, 0, []),
  (42, .aload_n 0, 1, 0, 0, 0, 0, 0, []),
  (43, .getfield 72, 3, 3, 16, 0, 0, 0, [37]),
  (46, .if_icmp .ge 12, 3, 58, 0, 0, 0, 0, []),
  (49, .aload_n 0, 1, 0, 0, 0, 0, 0, []),
  (50, .getfield 37, 3, 3, 9, 3, 2837, 9, [27]),
  (53, .iload_n 3, 1, 3, 0, 0, 0, 0, []),
  (54, .iaload, 1, 0, 0, 0, 0, 0, []),
  (55, .goto 4, 3, 59, 0, 0, 0, 0, []),
  (58, .iconst (-1), 1, 0, 0, 0, 0, (-1), []),
  (59, .ireturn, 1, 0, 0, 0, 0, 0, [])]
abbrev kNodes_slotOf : Nat := 34
def cNodes_slotOf : List xE := [(0, .iload_n 3, 1, 3, 0, 0, 0, 0, []),
  (1, .ifCond .lt 11, 3, 12, 0, 0, 0, 0, []),
  (4, .iload_n 3, 1, 3, 0, 0, 0, 0, []),
  (5, .aload_n 0, 1, 0, 0, 0, 0, 0, []),
  (6, .getfield 67, 3, 3, 15, 0, 0, 0, [34]),
  (9, .if_icmp .lt 5, 3, 14, 0, 0, 0, 0, []),
  (12, .iconst 0, 1, 0, 0, 0, 0, 0, []),
  (13, .ireturn, 1, 0, 0, 0, 0, 0, []),
  (14, .lload_n 1, 1, 1, 0, 0, 0, 0, []),
  (15, .bipush 32, 2, 0, 0, 0, 0, 32, []),
  (17, .aload_n 0, 1, 0, 0, 0, 0, 0, []),
  (18, .getfield 49, 3, 3, 13, 3, 17, 13, [31]),
  (21, .iload_n 3, 1, 3, 0, 0, 0, 0, []),
  (22, .iconst 1, 1, 0, 0, 0, 0, 1, []),
  (23, .iadd, 1, 0, 0, 0, 0, 0, []),
  (24, .iaload, 1, 0, 0, 0, 0, 0, []),
  (25, .isub, 1, 0, 0, 0, 0, 0, []),
  (26, .lshr, 1, 0, 0, 0, 0, 0, []),
  (27, .l2i, 1, 0, 0, 0, 0, 0, []),
  (28, .iconst 1, 1, 0, 0, 0, 0, 1, []),
  (29, .aload_n 0, 1, 0, 0, 0, 0, 0, []),
  (30, .getfield 52, 3, 3, 14, 3, 16, 14, [32]),
  (33, .iload_n 3, 1, 3, 0, 0, 0, 0, []),
  (34, .iaload, 1, 0, 0, 0, 0, 0, []),
  (35, .ishl, 1, 0, 0, 0, 0, 0, []),
  (36, .iconst 1, 1, 0, 0, 0, 0, 1, []),
  (37, .isub, 1, 0, 0, 0, 0, 0, []),
  (38, .iand, 1, 0, 0, 0, 0, 0, []),
  (39, .ireturn, 1, 0, 0, 0, 0, 0, [])]
abbrev kNodes_goTo : Nat := 35
def cNodes_goTo : List xE := [(0, .aload_n 0, 1, 0, 0, 0, 0, 0, []),
  (1, .iconst 0, 1, 0, 0, 0, 0, 0, []),
  (2, .putfield 124, 3, 3, 17, 0, 0, 0, [41]),
  (5, .iconst 0, 1, 0, 0, 0, 0, 0, []),
  (6, .istore_n 3, 1, 3, 0, 0, 0, 0, []),
  (7, .aload_n 0, 1, 0, 0, 0, 0, 0, []),
  (8, .getfield 124, 3, 3, 17, 0, 0, 0, [41]),
  (11, .aload_n 0, 1, 0, 0, 0, 0, 0, []),
  (12, .getfield 67, 3, 3, 15, 0, 0, 0, [34]),
  (15, .if_icmp .ge 49, 3, 64, 0, 0, 0, 0, []),
  (18, .aload_n 0, 1, 0, 0, 0, 0, 0, []),
  (19, .iload_n 3, 1, 3, 0, 0, 0, 0, []),
  (20, .invokevirtual 105, 3, 24, 2, 2, 1, 3, [27]),
  (23, .ifCond .eq 41, 3, 64, 0, 0, 0, 0, []),
  (26, .aload_n 0, 1, 0, 0, 0, 0, 0, []),
  (27, .getfield 31, 3, 3, 7, 3, 16, 7, [25]),
  (30, .aload_n 0, 1, 0, 0, 0, 0, 0, []),
  (31, .getfield 124, 3, 3, 17, 0, 0, 0, [41]),
  (34, .iload_n 3, 1, 3, 0, 0, 0, 0, []),
  (35, .iastore, 1, 0, 0, 0, 0, 0, []),
  (36, .aload_n 0, 1, 0, 0, 0, 0, 0, []),
  (37, .iload_n 3, 1, 3, 0, 0, 0, 0, []),
  (38, .aload_n 0, 1, 0, 0, 0, 0, 0, []),
  (39, .lload_n 1, 1, 1, 0, 0, 0, 0, []),
  (40, .aload_n 0, 1, 0, 0, 0, 0, 0, []),
  (41, .getfield 124, 3, 3, 17, 0, 0, 0, [41]),
  (44, .invokevirtual 127, 3, 34, 3, 4, 1, 3, [31]),
  (47, .invokevirtual 130, 3, 31, 3, 3, 1, 3, [32]),
  (50, .istore_n 3, 1, 3, 0, 0, 0, 0, []),
  (51, .aload_n 0, 1, 0, 0, 0, 0, 0, []),
  (52, .dup, 1, 0, 0, 0, 0, 0, []),
  (53, .getfield 124, 3, 3, 17, 0, 0, 0, [41]),
  (56, .iconst 1, 1, 0, 0, 0, 0, 1, []),
  (57, .iadd, 1, 0, 0, 0, 0, 0, []),
  (58, .putfield 124, 3, 3, 17, 0, 0, 0, [41]),
  (61, .goto (-54), 3, 7, 0, 0, 0, 0, []),
  (64, .aload_n 0, 1, 0, 0, 0, 0, 0, []),
  (65, .getfield 124, 3, 3, 17, 0, 0, 0, [41]),
  (68, .ireturn, 1, 0, 0, 0, 0, 0, [])]
abbrev kNodes_placeOf : Nat := 36
def cNodes_placeOf : List xE := [(0, .aload_n 0, 1, 0, 0, 0, 0, 0, []),
  (1, .getfield 124, 3, 3, 17, 0, 0, 0, [41]),
  (4, .ifCond .le 30, 3, 34, 0, 0, 0, 0, []),
  (7, .aload_n 0, 1, 0, 0, 0, 0, 0, []),
  (8, .getfield 124, 3, 3, 17, 0, 0, 0, [41]),
  (11, .bipush 16, 2, 0, 0, 0, 0, 16, []),
  (13, .if_icmp .gt 21, 3, 34, 0, 0, 0, 0, []),
  (16, .aload_n 0, 1, 0, 0, 0, 0, 0, []),
  (17, .aload_n 0, 1, 0, 0, 0, 0, 0, []),
  (18, .getfield 31, 3, 3, 7, 3, 16, 7, [25]),
  (21, .aload_n 0, 1, 0, 0, 0, 0, 0, []),
  (22, .getfield 124, 3, 3, 17, 0, 0, 0, [41]),
  (25, .iconst 1, 1, 0, 0, 0, 0, 1, []),
  (26, .isub, 1, 0, 0, 0, 0, 0, []),
  (27, .iaload, 1, 0, 0, 0, 0, 0, []),
  (28, .invokevirtual 105, 3, 24, 2, 2, 1, 3, [27]),
  (31, .ifCond .ne 5, 3, 36, 0, 0, 0, 0, []),
  (34, .iconst (-1), 1, 0, 0, 0, 0, (-1), []),
  (35, .ireturn, 1, 0, 0, 0, 0, 0, []),
  (36, .aload_n 0, 1, 0, 0, 0, 0, 0, []),
  (37, .aload_n 0, 1, 0, 0, 0, 0, 0, []),
  (38, .getfield 31, 3, 3, 7, 3, 16, 7, [25]),
  (41, .aload_n 0, 1, 0, 0, 0, 0, 0, []),
  (42, .getfield 124, 3, 3, 17, 0, 0, 0, [41]),
  (45, .iconst 1, 1, 0, 0, 0, 0, 1, []),
  (46, .isub, 1, 0, 0, 0, 0, 0, []),
  (47, .iaload, 1, 0, 0, 0, 0, 0, []),
  (48, .aload_n 0, 1, 0, 0, 0, 0, 0, []),
  (49, .lload_n 1, 1, 1, 0, 0, 0, 0, []),
  (50, .aload_n 0, 1, 0, 0, 0, 0, 0, []),
  (51, .getfield 124, 3, 3, 17, 0, 0, 0, [41]),
  (54, .iconst 1, 1, 0, 0, 0, 0, 1, []),
  (55, .isub, 1, 0, 0, 0, 0, 0, []),
  (56, .invokevirtual 127, 3, 34, 3, 4, 1, 3, [31]),
  (59, .invokevirtual 121, 3, 32, 3, 3, 1, 3, [30]),
  (62, .ireturn, 1, 0, 0, 0, 0, 0, [])]
abbrev kNodes_deepest : Nat := 37
def cNodes_deepest : List xE := [(0, .aload_n 0, 1, 0, 0, 0, 0, 0, []),
  (1, .aload_n 0, 1, 0, 0, 0, 0, 0, []),
  (2, .getfield 69, 3, 3, 0, 0, 0, 0, [36]),
  (5, .iconst 1, 1, 0, 0, 0, 0, 1, []),
  (6, .isub, 1, 0, 0, 0, 0, 0, []),
  (7, .invokevirtual 105, 3, 24, 2, 2, 1, 3, [27]),
  (10, .ifCond .eq 19, 3, 29, 0, 0, 0, 0, []),
  (13, .aload_n 0, 1, 0, 0, 0, 0, 0, []),
  (14, .getfield 15, 3, 3, 2, 3, 901, 2, [20]),
  (17, .aload_n 0, 1, 0, 0, 0, 0, 0, []),
  (18, .getfield 69, 3, 3, 0, 0, 0, 0, [36]),
  (21, .iconst 1, 1, 0, 0, 0, 0, 1, []),
  (22, .isub, 1, 0, 0, 0, 0, 0, []),
  (23, .iaload, 1, 0, 0, 0, 0, 0, []),
  (24, .iconst 1, 1, 0, 0, 0, 0, 1, []),
  (25, .iadd, 1, 0, 0, 0, 0, 0, []),
  (26, .goto 4, 3, 30, 0, 0, 0, 0, []),
  (29, .iconst 0, 1, 0, 0, 0, 0, 0, []),
  (30, .ireturn, 1, 0, 0, 0, 0, 0, [])]
abbrev kNodes_allSteps : Nat := 38
def cNodes_allSteps : List xE := [(0, .lconst 0, 1, 0, 0, 0, 0, 0, []),
  (1, .lstore_n 1, 1, 1, 0, 0, 0, 0, []),
  (2, .iconst 0, 1, 0, 0, 0, 0, 0, []),
  (3, .istore_n 3, 1, 3, 0, 0, 0, 0, []),
  (4, .iload_n 3, 1, 3, 0, 0, 0, 0, []),
  (5, .aload_n 0, 1, 0, 0, 0, 0, 0, []),
  (6, .getfield 67, 3, 3, 15, 0, 0, 0, [34]),
  (9, .if_icmp .ge 34, 3, 43, 0, 0, 0, 0, []),
  (12, .lload_n 1, 1, 1, 0, 0, 0, 0, []),
  (13, .aload_n 0, 1, 0, 0, 0, 0, 0, []),
  (14, .iload_n 3, 1, 3, 0, 0, 0, 0, []),
  (15, .invokevirtual 133, 3, 26, 2, 2, 1, 3, [33]),
  (18, .aload_n 0, 1, 0, 0, 0, 0, 0, []),
  (19, .iload_n 3, 1, 3, 0, 0, 0, 0, []),
  (20, .invokevirtual 136, 3, 25, 2, 2, 1, 3, [34]),
  (23, .isub, 1, 0, 0, 0, 0, 0, []),
  (24, .i2l, 1, 0, 0, 0, 0, 0, []),
  (25, .aload_n 0, 1, 0, 0, 0, 0, 0, []),
  (26, .getfield 49, 3, 3, 13, 3, 17, 13, [31]),
  (29, .iload_n 3, 1, 3, 0, 0, 0, 0, []),
  (30, .iaload, 1, 0, 0, 0, 0, 0, []),
  (31, .invokestatic 139, 3, 120, 1, 1, 1, 0, [35]),
  (34, .lmul, 1, 0, 0, 0, 0, 0, []),
  (35, .ladd, 1, 0, 0, 0, 0, 0, []),
  (36, .lstore_n 1, 1, 1, 0, 0, 0, 0, []),
  (37, .iinc 3 1, 3, 3, 0, 0, 0, 1, []),
  (40, .goto (-36), 3, 4, 0, 0, 0, 0, []),
  (43, .lload_n 1, 1, 1, 0, 0, 0, 0, []),
  (44, .lreturn, 1, 0, 0, 0, 0, 0, [])]
abbrev kNodes_isSame : Nat := 39
def cNodes_isSame : List xE := [(0, .aload_n 0, 1, 0, 0, 0, 0, 0, []),
  (1, .iload_n 1, 1, 1, 0, 0, 0, 0, []),
  (2, .invokevirtual 105, 3, 24, 2, 2, 1, 3, [27]),
  (5, .ifCond .eq 43, 3, 48, 0, 0, 0, 0, []),
  (8, .aload_n 2, 1, 2, 0, 0, 0, 0, []),
  (9, .iload_n 3, 1, 3, 0, 0, 0, 0, []),
  (10, .invokevirtual 105, 3, 24, 2, 2, 1, 3, [27]),
  (13, .ifCond .eq 35, 3, 48, 0, 0, 0, 0, []),
  (16, .aload_n 0, 1, 0, 0, 0, 0, 0, []),
  (17, .getfield 19, 3, 3, 3, 4, 901, 3, [21]),
  (20, .iload_n 1, 1, 1, 0, 0, 0, 0, []),
  (21, .laload, 1, 0, 0, 0, 0, 0, []),
  (22, .aload_n 2, 1, 2, 0, 0, 0, 0, []),
  (23, .getfield 19, 3, 3, 3, 4, 901, 3, [21]),
  (26, .iload_n 3, 1, 3, 0, 0, 0, 0, []),
  (27, .laload, 1, 0, 0, 0, 0, 0, []),
  (28, .lcmp, 4, 48, 1, 0, 0, 0, []),
  (32, .aload_n 0, 1, 0, 0, 0, 0, 0, []),
  (33, .getfield 22, 3, 3, 4, 4, 901, 4, [22]),
  (36, .iload_n 1, 1, 1, 0, 0, 0, 0, []),
  (37, .laload, 1, 0, 0, 0, 0, 0, []),
  (38, .aload_n 2, 1, 2, 0, 0, 0, 0, []),
  (39, .getfield 22, 3, 3, 4, 4, 901, 4, [22]),
  (42, .iload_n 3, 1, 3, 0, 0, 0, 0, []),
  (43, .laload, 1, 0, 0, 0, 0, 0, []),
  (44, .lcmp, 4, 50, 0, 0, 0, 0, []),
  (48, .iconst 0, 1, 0, 0, 0, 0, 0, []),
  (49, .ireturn, 1, 1, 0, 0, 0, 0, []),
  (50, .aload_n 0, 1, 0, 0, 0, 0, 0, []),
  (51, .getfield 34, 3, 3, 8, 3, 902, 8, [26]),
  (54, .iload_n 1, 1, 1, 0, 0, 0, 0, []),
  (55, .iconst 1, 1, 0, 0, 0, 0, 1, []),
  (56, .iadd, 1, 0, 0, 0, 0, 0, []),
  (57, .iaload, 1, 0, 0, 0, 0, 0, []),
  (58, .aload_n 0, 1, 0, 0, 0, 0, 0, []),
  (59, .getfield 34, 3, 3, 8, 3, 902, 8, [26]),
  (62, .iload_n 1, 1, 1, 0, 0, 0, 0, []),
  (63, .iaload, 1, 0, 0, 0, 0, 0, []),
  (64, .isub, 1, 0, 0, 0, 0, 0, []),
  (65, .istore 4, 2, 4, 0, 0, 0, 0, []),
  (67, .iload 4, 2, 4, 0, 0, 0, 0, []),
  (69, .aload_n 2, 1, 2, 0, 0, 0, 0, []),
  (70, .getfield 34, 3, 3, 8, 3, 902, 8, [26]),
  (73, .iload_n 3, 1, 3, 0, 0, 0, 0, []),
  (74, .iconst 1, 1, 0, 0, 0, 0, 1, []),
  (75, .iadd, 1, 0, 0, 0, 0, 0, []),
  (76, .iaload, 1, 0, 0, 0, 0, 0, []),
  (77, .aload_n 2, 1, 2, 0, 0, 0, 0, []),
  (78, .getfield 34, 3, 3, 8, 3, 902, 8, [26]),
  (81, .iload_n 3, 1, 3, 0, 0, 0, 0, []),
  (82, .iaload, 1, 0, 0, 0, 0, 0, []),
  (83, .isub, 1, 0, 0, 0, 0, 0, []),
  (84, .if_icmp .eq 5, 3, 89, 0, 0, 0, 0, []),
  (87, .iconst 0, 1, 0, 0, 0, 0, 0, []),
  (88, .ireturn, 1, 1, 0, 0, 0, 0, []),
  (89, .iconst 0, 1, 0, 0, 0, 0, 0, []),
  (90, .istore 5, 2, 5, 0, 0, 0, 0, []),
  (92, .iload 5, 2, 5, 0, 0, 0, 0, []),
  (94, .iload 4, 2, 4, 0, 0, 0, 0, []),
  (96, .if_icmp .ge 66, 3, 162, 0, 0, 0, 0, []),
  (99, .aload_n 0, 1, 0, 0, 0, 0, 0, []),
  (100, .getfield 34, 3, 3, 8, 3, 902, 8, [26]),
  (103, .iload_n 1, 1, 1, 0, 0, 0, 0, []),
  (104, .iaload, 1, 0, 0, 0, 0, 0, []),
  (105, .iload 5, 2, 5, 0, 0, 0, 0, []),
  (107, .iadd, 1, 0, 0, 0, 0, 0, []),
  (108, .istore 6, 2, 6, 0, 0, 0, 0, []),
  (110, .aload_n 2, 1, 2, 0, 0, 0, 0, []),
  (111, .getfield 34, 3, 3, 8, 3, 902, 8, [26]),
  (114, .iload_n 3, 1, 3, 0, 0, 0, 0, []),
  (115, .iaload, 1, 0, 0, 0, 0, 0, []),
  (116, .iload 5, 2, 5, 0, 0, 0, 0, []),
  (118, .iadd, 1, 0, 0, 0, 0, 0, []),
  (119, .istore 7, 2, 7, 0, 0, 0, 0, []),
  (121, .iload 6, 2, 6, 0, 0, 0, 0, []),
  (123, .sipush 2837, 3, 0, 0, 0, 0, 2837, []),
  (126, .if_icmp .ge 28, 3, 154, 0, 0, 0, 0, []),
  (129, .iload 7, 2, 7, 0, 0, 0, 0, []),
  (131, .sipush 2837, 3, 0, 0, 0, 0, 2837, []),
  (134, .if_icmp .ge 20, 3, 154, 0, 0, 0, 0, []),
  (137, .aload_n 0, 1, 0, 0, 0, 0, 0, []),
  (138, .getfield 40, 3, 3, 10, 3, 2837, 10, [28]),
  (141, .iload 6, 2, 6, 0, 0, 0, 0, []),
  (143, .iaload, 1, 0, 0, 0, 0, 0, []),
  (144, .aload_n 2, 1, 2, 0, 0, 0, 0, []),
  (145, .getfield 40, 3, 3, 10, 3, 2837, 10, [28]),
  (148, .iload 7, 2, 7, 0, 0, 0, 0, []),
  (150, .iaload, 1, 0, 0, 0, 0, 0, []),
  (151, .if_icmp .eq 5, 3, 156, 0, 0, 0, 0, []),
  (154, .iconst 0, 1, 0, 0, 0, 0, 0, []),
  (155, .ireturn, 1, 1, 0, 0, 0, 0, []),
  (156, .iinc 5 1, 3, 5, 0, 0, 0, 1, []),
  (159, .goto (-67), 3, 92, 0, 0, 0, 0, []),
  (162, .iconst 1, 1, 0, 0, 0, 0, 1, []),
  (163, .ireturn, 1, 1, 0, 0, 0, 0, [])]
abbrev kNodes_othersThan : Nat := 40
def cNodes_othersThan : List xE := [(0, .iconst 0, 1, 0, 0, 0, 0, 0, []),
  (1, .istore_n 2, 1, 2, 0, 0, 0, 0, []),
  (2, .iconst 0, 1, 0, 0, 0, 0, 0, []),
  (3, .istore_n 3, 1, 3, 0, 0, 0, 0, []),
  (4, .iconst 0, 1, 0, 0, 0, 0, 0, []),
  (5, .istore 4, 2, 4, 0, 0, 0, 0, []),
  (7, .aload_n 0, 1, 0, 0, 0, 0, 0, []),
  (8, .iload_n 3, 1, 3, 0, 0, 0, 0, []),
  (9, .invokevirtual 105, 3, 24, 2, 2, 1, 3, [27]),
  (12, .ifCond .eq 78, 3, 90, 0, 0, 0, 0, []),
  (15, .aload_n 1, 1, 1, 0, 0, 0, 0, []),
  (16, .iload 4, 2, 4, 0, 0, 0, 0, []),
  (18, .invokevirtual 105, 3, 24, 2, 2, 1, 3, [27]),
  (21, .ifCond .eq 69, 3, 90, 0, 0, 0, 0, []),
  (24, .aload_n 0, 1, 0, 0, 0, 0, 0, []),
  (25, .iload_n 3, 1, 3, 0, 0, 0, 0, []),
  (26, .aload_n 1, 1, 1, 0, 0, 0, 0, []),
  (27, .iload 4, 2, 4, 0, 0, 0, 0, []),
  (29, .invokevirtual 143, 3, 41, 4, 5, 1, 3, [36]),
  (32, .lstore 5, 2, 5, 0, 0, 0, 0, []),
  (34, .lload 5, 2, 5, 0, 0, 0, 0, []),
  (36, .lconst 0, 1, 0, 0, 0, 0, 0, []),
  (37, .lcmp, 4, 52, 1, 0, 0, 0, []),
  (41, .aload_n 0, 1, 0, 0, 0, 0, 0, []),
  (42, .iload_n 3, 1, 3, 0, 0, 0, 0, []),
  (43, .aload_n 1, 1, 1, 0, 0, 0, 0, []),
  (44, .iload 4, 2, 4, 0, 0, 0, 0, []),
  (46, .invokevirtual 147, 3, 39, 4, 8, 1, 3, [37]),
  (49, .ifCond .ne 6, 3, 55, 0, 0, 0, 0, []),
  (52, .iinc 2 1, 3, 2, 0, 0, 0, 1, []),
  (55, .iload_n 3, 1, 3, 0, 0, 0, 0, []),
  (56, .lload 5, 2, 5, 0, 0, 0, 0, []),
  (58, .lconst 0, 1, 0, 0, 0, 0, 0, []),
  (59, .lcmp, 4, 67, 4, 0, 0, 0, []),
  (63, .iconst 1, 1, 0, 0, 0, 0, 1, []),
  (64, .goto 4, 3, 68, 0, 0, 0, 0, []),
  (67, .iconst 0, 1, 0, 0, 0, 0, 0, []),
  (68, .iadd, 1, 0, 0, 0, 0, 0, []),
  (69, .istore_n 3, 1, 3, 0, 0, 0, 0, []),
  (70, .iload 4, 2, 4, 0, 0, 0, 0, []),
  (72, .lload 5, 2, 5, 0, 0, 0, 0, []),
  (74, .lconst 0, 1, 0, 0, 0, 0, 0, []),
  (75, .lcmp, 4, 83, 2, 0, 0, 0, []),
  (79, .iconst 1, 1, 0, 0, 0, 0, 1, []),
  (80, .goto 4, 3, 84, 0, 0, 0, 0, []),
  (83, .iconst 0, 1, 0, 0, 0, 0, 0, []),
  (84, .iadd, 1, 0, 0, 0, 0, 0, []),
  (85, .istore 4, 2, 4, 0, 0, 0, 0, []),
  (87, .goto (-80), 3, 7, 0, 0, 0, 0, []),
  (90, .iload_n 2, 1, 2, 0, 0, 0, 0, []),
  (91, .aload_n 0, 1, 0, 0, 0, 0, 0, []),
  (92, .getfield 69, 3, 3, 0, 0, 0, 0, [36]),
  (95, .iload_n 3, 1, 3, 0, 0, 0, 0, []),
  (96, .isub, 1, 0, 0, 0, 0, 0, []),
  (97, .iadd, 1, 0, 0, 0, 0, 0, []),
  (98, .aload_n 1, 1, 1, 0, 0, 0, 0, []),
  (99, .getfield 69, 3, 3, 0, 0, 0, 0, [36]),
  (102, .iload 4, 2, 4, 0, 0, 0, 0, []),
  (104, .isub, 1, 0, 0, 0, 0, 0, []),
  (105, .iadd, 1, 0, 0, 0, 0, 0, []),
  (106, .ireturn, 1, 0, 0, 0, 0, 0, [])]
abbrev kNodes_orderOf : Nat := 41
def cNodes_orderOf : List xE := [(0, .aload_n 0, 1, 0, 0, 0, 0, 0, []),
  (1, .getfield 15, 3, 3, 2, 3, 901, 2, [20]),
  (4, .iload_n 1, 1, 1, 0, 0, 0, 0, []),
  (5, .iaload, 1, 0, 0, 0, 0, 0, []),
  (6, .aload_n 2, 1, 2, 0, 0, 0, 0, []),
  (7, .getfield 15, 3, 3, 2, 3, 901, 2, [20]),
  (10, .iload_n 3, 1, 3, 0, 0, 0, 0, []),
  (11, .iaload, 1, 0, 0, 0, 0, 0, []),
  (12, .isub, 1, 0, 0, 0, 0, 0, []),
  (13, .istore 4, 2, 4, 0, 0, 0, 0, []),
  (15, .iload 4, 2, 4, 0, 0, 0, 0, []),
  (17, .ifCond .eq 9, 3, 26, 0, 0, 0, 0, []),
  (20, .iload 4, 2, 4, 0, 0, 0, 0, []),
  (22, .i2l, 1, 0, 0, 0, 0, 0, []),
  (23, .goto 16, 3, 39, 0, 0, 0, 0, []),
  (26, .aload_n 0, 1, 0, 0, 0, 0, 0, []),
  (27, .getfield 9, 3, 3, 1, 4, 901, 1, [19]),
  (30, .iload_n 1, 1, 1, 0, 0, 0, 0, []),
  (31, .laload, 1, 0, 0, 0, 0, 0, []),
  (32, .aload_n 2, 1, 2, 0, 0, 0, 0, []),
  (33, .getfield 9, 3, 3, 1, 4, 901, 1, [19]),
  (36, .iload_n 3, 1, 3, 0, 0, 0, 0, []),
  (37, .laload, 1, 0, 0, 0, 0, 0, []),
  (38, .lsub, 1, 0, 0, 0, 0, 0, []),
  (39, .lreturn, 1, 0, 0, 0, 0, 0, [])]
abbrev kPieces_cut : Nat := 42
def cPieces_cut : List xE := [(0, .aload_n 0, 1, 0, 0, 0, 0, 0, []),
  (1, .iconst 0, 1, 0, 0, 0, 0, 0, []),
  (2, .putfield 19, 3, 4, 0, 0, 0, 0, [44]),
  (5, .lload_n 1, 1, 1, 0, 0, 0, 0, []),
  (6, .lstore 5, 2, 5, 0, 0, 0, 0, []),
  (8, .lload 5, 2, 5, 0, 0, 0, 0, []),
  (10, .lload_n 3, 1, 3, 0, 0, 0, 0, []),
  (11, .lcmp, 4, 77, 4, 0, 0, 0, []),
  (15, .aload_n 0, 1, 0, 0, 0, 0, 0, []),
  (16, .getfield 19, 3, 4, 0, 0, 0, 0, [44]),
  (19, .bipush 64, 2, 0, 0, 0, 0, 64, []),
  (21, .if_icmp .ge 56, 3, 77, 0, 0, 0, 0, []),
  (24, .lload 5, 2, 5, 0, 0, 0, 0, []),
  (26, .lload_n 3, 1, 3, 0, 0, 0, 0, []),
  (27, .invokestatic 23, 3, 43, 2, 5, 1, 0, [38]),
  (30, .istore 7, 2, 7, 0, 0, 0, 0, []),
  (32, .aload_n 0, 1, 0, 0, 0, 0, 0, []),
  (33, .getfield 9, 3, 4, 1, 4, 64, 1, [42]),
  (36, .aload_n 0, 1, 0, 0, 0, 0, 0, []),
  (37, .getfield 19, 3, 4, 0, 0, 0, 0, [44]),
  (40, .lload 5, 2, 5, 0, 0, 0, 0, []),
  (42, .lastore, 1, 0, 0, 0, 0, 0, []),
  (43, .aload_n 0, 1, 0, 0, 0, 0, 0, []),
  (44, .getfield 15, 3, 4, 2, 3, 64, 2, [43]),
  (47, .aload_n 0, 1, 0, 0, 0, 0, 0, []),
  (48, .getfield 19, 3, 4, 0, 0, 0, 0, [44]),
  (51, .iload 7, 2, 7, 0, 0, 0, 0, []),
  (53, .iastore, 1, 0, 0, 0, 0, 0, []),
  (54, .aload_n 0, 1, 0, 0, 0, 0, 0, []),
  (55, .dup, 1, 0, 0, 0, 0, 0, []),
  (56, .getfield 19, 3, 4, 0, 0, 0, 0, [44]),
  (59, .iconst 1, 1, 0, 0, 0, 0, 1, []),
  (60, .iadd, 1, 0, 0, 0, 0, 0, []),
  (61, .putfield 19, 3, 4, 0, 0, 0, 0, [44]),
  (64, .lload 5, 2, 5, 0, 0, 0, 0, []),
  (66, .iload 7, 2, 7, 0, 0, 0, 0, []),
  (68, .invokestatic 27, 3, 120, 1, 1, 1, 0, [39]),
  (71, .ladd, 1, 0, 0, 0, 0, 0, []),
  (72, .lstore 5, 2, 5, 0, 0, 0, 0, []),
  (74, .goto (-66), 3, 8, 0, 0, 0, 0, []),
  (77, .return_, 1, 0, 0, 0, 0, 0, [])]
abbrev kPieces_shortestAt : Nat := 43
def cPieces_shortestAt : List xE := [(0, .iconst 0, 1, 0, 0, 0, 0, 0, []),
  (1, .istore 4, 2, 4, 0, 0, 0, 0, []),
  (3, .iload 4, 2, 4, 0, 0, 0, 0, []),
  (5, .bipush 32, 2, 0, 0, 0, 0, 32, []),
  (7, .if_icmp .ge 37, 3, 44, 0, 0, 0, 0, []),
  (10, .lload_n 0, 1, 0, 0, 0, 0, 0, []),
  (11, .iload 4, 2, 4, 0, 0, 0, 0, []),
  (13, .invokestatic 27, 3, 120, 1, 1, 1, 0, [39]),
  (16, .lconst 1, 1, 0, 0, 0, 0, 1, []),
  (17, .lsub, 1, 0, 0, 0, 0, 0, []),
  (18, .land, 1, 0, 0, 0, 0, 0, []),
  (19, .lconst 0, 1, 0, 0, 0, 0, 0, []),
  (20, .lcmp, 4, 38, 1, 0, 0, 0, []),
  (24, .lload_n 0, 1, 0, 0, 0, 0, 0, []),
  (25, .iload 4, 2, 4, 0, 0, 0, 0, []),
  (27, .invokestatic 27, 3, 120, 1, 1, 1, 0, [39]),
  (30, .ladd, 1, 0, 0, 0, 0, 0, []),
  (31, .lconst 1, 1, 0, 0, 0, 0, 1, []),
  (32, .lsub, 1, 0, 0, 0, 0, 0, []),
  (33, .lload_n 2, 1, 2, 0, 0, 0, 0, []),
  (34, .lcmp, 4, 44, 5, 0, 0, 0, []),
  (38, .iinc 4 1, 3, 4, 0, 0, 0, 1, []),
  (41, .goto (-38), 3, 3, 0, 0, 0, 0, []),
  (44, .iload 4, 2, 4, 0, 0, 0, 0, []),
  (46, .ireturn, 1, 0, 0, 0, 0, 0, [])]
abbrev kPieces_tellOf : Nat := 44
def cPieces_tellOf : List xE := [(0, .iload_n 1, 1, 1, 0, 0, 0, 0, []),
  (1, .ifCond .lt 26, 3, 27, 0, 0, 0, 0, []),
  (4, .iload_n 1, 1, 1, 0, 0, 0, 0, []),
  (5, .aload_n 0, 1, 0, 0, 0, 0, 0, []),
  (6, .getfield 19, 3, 4, 0, 0, 0, 0, [44]),
  (9, .if_icmp .ge 18, 3, 27, 0, 0, 0, 0, []),
  (12, .iload_n 1, 1, 1, 0, 0, 0, 0, []),
  (13, .bipush 64, 2, 0, 0, 0, 0, 64, []),
  (15, .if_icmp .ge 12, 3, 27, 0, 0, 0, 0, []),
  (18, .iload_n 2, 1, 2, 0, 0, 0, 0, []),
  (19, .ifCond .eq 12, 3, 31, 0, 0, 0, 0, []),
  (22, .iload_n 2, 1, 2, 0, 0, 0, 0, []),
  (23, .iconst 1, 1, 0, 0, 0, 0, 1, []),
  (24, .if_icmp .eq 7, 3, 31, 0, 0, 0, 0, []),
  (27, .ldc2_w 31, 3, 0, 0, 0, 0, (-2), [6]),
  (30, .lreturn, 1, 0, 0, 0, 0, 0, []),
  (31, .iload_n 2, 1, 2, 0, 0, 0, 0, []),
  (32, .ifCond .ne 13, 3, 45, 0, 0, 0, 0, []),
  (35, .aload_n 0, 1, 0, 0, 0, 0, 0, []),
  (36, .getfield 15, 3, 4, 2, 3, 64, 2, [43]),
  (39, .iload_n 1, 1, 1, 0, 0, 0, 0, []),
  (40, .iaload, 1, 0, 0, 0, 0, 0, []),
  (41, .i2l, 1, 0, 0, 0, 0, 0, []),
  (42, .goto 9, 3, 51, 0, 0, 0, 0, []),
  (45, .aload_n 0, 1, 0, 0, 0, 0, 0, []),
  (46, .getfield 9, 3, 4, 1, 4, 64, 1, [42]),
  (49, .iload_n 1, 1, 1, 0, 0, 0, 0, []),
  (50, .laload, 1, 0, 0, 0, 0, 0, []),
  (51, .lreturn, 1, 0, 0, 0, 0, 0, [])]
abbrev kSpans_survey : Nat := 45
def cSpans_survey : List xE := [(0, .aload_n 0, 1, 0, 0, 0, 0, 0, []),
  (1, .iconst 0, 1, 0, 0, 0, 0, 0, []),
  (2, .putfield 34, 3, 5, 0, 0, 0, 0, [52]),
  (5, .aload_n 0, 1, 0, 0, 0, 0, 0, []),
  (6, .iconst 0, 1, 0, 0, 0, 0, 0, []),
  (7, .putfield 38, 3, 5, 8, 0, 0, 0, [53]),
  (10, .aload_n 0, 1, 0, 0, 0, 0, 0, []),
  (11, .lconst 0, 1, 0, 0, 0, 0, 0, []),
  (12, .putfield 41, 3, 5, 9, 1, 0, 0, [54]),
  (15, .iconst 0, 1, 0, 0, 0, 0, 0, []),
  (16, .istore_n 2, 1, 2, 0, 0, 0, 0, []),
  (17, .iload_n 2, 1, 2, 0, 0, 0, 0, []),
  (18, .aload_n 1, 1, 1, 0, 0, 0, 0, []),
  (19, .getfield 45, 3, 6, 0, 0, 0, 0, [55]),
  (22, .if_icmp .ge 91, 3, 113, 0, 0, 0, 0, []),
  (25, .iload_n 2, 1, 2, 0, 0, 0, 0, []),
  (26, .bipush 60, 2, 0, 0, 0, 0, 60, []),
  (28, .if_icmp .ge 85, 3, 113, 0, 0, 0, 0, []),
  (31, .aload_n 0, 1, 0, 0, 0, 0, 0, []),
  (32, .getfield 25, 3, 5, 5, 4, 60, 5, [49]),
  (35, .iload_n 2, 1, 2, 0, 0, 0, 0, []),
  (36, .lconst 0, 1, 0, 0, 0, 0, 0, []),
  (37, .lastore, 1, 0, 0, 0, 0, 0, []),
  (38, .aload_n 0, 1, 0, 0, 0, 0, 0, []),
  (39, .aload_n 1, 1, 1, 0, 0, 0, 0, []),
  (40, .getfield 50, 3, 6, 1, 4, 60, 1, [56]),
  (43, .iload_n 2, 1, 2, 0, 0, 0, 0, []),
  (44, .laload, 1, 0, 0, 0, 0, 0, []),
  (45, .aload_n 1, 1, 1, 0, 0, 0, 0, []),
  (46, .invokevirtual 53, 3, 47, 3, 7, 0, 5, [40]),
  (49, .aload_n 0, 1, 0, 0, 0, 0, 0, []),
  (50, .getfield 28, 3, 5, 6, 3, 60, 6, [50]),
  (53, .iload_n 2, 1, 2, 0, 0, 0, 0, []),
  (54, .aload_n 0, 1, 0, 0, 0, 0, 0, []),
  (55, .invokevirtual 57, 3, 46, 1, 1, 1, 5, [41]),
  (58, .iastore, 1, 0, 0, 0, 0, 0, []),
  (59, .aload_n 0, 1, 0, 0, 0, 0, 0, []),
  (60, .aload_n 0, 1, 0, 0, 0, 0, 0, []),
  (61, .getfield 28, 3, 5, 6, 3, 60, 6, [50]),
  (64, .iload_n 2, 1, 2, 0, 0, 0, 0, []),
  (65, .iaload, 1, 0, 0, 0, 0, 0, []),
  (66, .aload_n 1, 1, 1, 0, 0, 0, 0, []),
  (67, .getfield 50, 3, 6, 1, 4, 60, 1, [56]),
  (70, .iload_n 2, 1, 2, 0, 0, 0, 0, []),
  (71, .laload, 1, 0, 0, 0, 0, 0, []),
  (72, .lconst 1, 1, 0, 0, 0, 0, 1, []),
  (73, .lsub, 1, 0, 0, 0, 0, 0, []),
  (74, .aload_n 1, 1, 1, 0, 0, 0, 0, []),
  (75, .invokevirtual 61, 3, 48, 4, 7, 0, 5, [42]),
  (78, .aload_n 0, 1, 0, 0, 0, 0, 0, []),
  (79, .getfield 38, 3, 5, 8, 0, 0, 0, [53]),
  (82, .bipush 32, 2, 0, 0, 0, 0, 32, []),
  (84, .if_icmp .gt 23, 3, 107, 0, 0, 0, 0, []),
  (87, .aload_n 0, 1, 0, 0, 0, 0, 0, []),
  (88, .getfield 31, 3, 5, 7, 3, 33, 7, [51]),
  (91, .aload_n 0, 1, 0, 0, 0, 0, 0, []),
  (92, .getfield 38, 3, 5, 8, 0, 0, 0, [53]),
  (95, .iload_n 2, 1, 2, 0, 0, 0, 0, []),
  (96, .iastore, 1, 0, 0, 0, 0, 0, []),
  (97, .aload_n 0, 1, 0, 0, 0, 0, 0, []),
  (98, .dup, 1, 0, 0, 0, 0, 0, []),
  (99, .getfield 38, 3, 5, 8, 0, 0, 0, [53]),
  (102, .iconst 1, 1, 0, 0, 0, 0, 1, []),
  (103, .iadd, 1, 0, 0, 0, 0, 0, []),
  (104, .putfield 38, 3, 5, 8, 0, 0, 0, [53]),
  (107, .iinc 2 1, 3, 2, 0, 0, 0, 1, []),
  (110, .goto (-93), 3, 17, 0, 0, 0, 0, []),
  (113, .aload_n 0, 1, 0, 0, 0, 0, 0, []),
  (114, .ldc2_w 65, 3, 0, 0, 0, 0, 4294967296, [7]),
  (117, .aload_n 1, 1, 1, 0, 0, 0, 0, []),
  (118, .invokevirtual 53, 3, 47, 3, 7, 0, 5, [40]),
  (121, .aload_n 0, 1, 0, 0, 0, 0, 0, []),
  (122, .iconst (-1), 1, 0, 0, 0, 0, (-1), []),
  (123, .ldc2_w 67, 3, 0, 0, 0, 0, 4294967295, [8]),
  (126, .aload_n 1, 1, 1, 0, 0, 0, 0, []),
  (127, .invokevirtual 61, 3, 48, 4, 7, 0, 5, [42]),
  (130, .return_, 1, 0, 0, 0, 0, 0, [])]
abbrev kSpans_innermost : Nat := 46
def cSpans_innermost : List xE := [(0, .aload_n 0, 1, 0, 0, 0, 0, 0, []),
  (1, .getfield 38, 3, 5, 8, 0, 0, 0, [53]),
  (4, .ifCond .le 26, 3, 30, 0, 0, 0, 0, []),
  (7, .aload_n 0, 1, 0, 0, 0, 0, 0, []),
  (8, .getfield 38, 3, 5, 8, 0, 0, 0, [53]),
  (11, .bipush 33, 2, 0, 0, 0, 0, 33, []),
  (13, .if_icmp .gt 17, 3, 30, 0, 0, 0, 0, []),
  (16, .aload_n 0, 1, 0, 0, 0, 0, 0, []),
  (17, .getfield 31, 3, 5, 7, 3, 33, 7, [51]),
  (20, .aload_n 0, 1, 0, 0, 0, 0, 0, []),
  (21, .getfield 38, 3, 5, 8, 0, 0, 0, [53]),
  (24, .iconst 1, 1, 0, 0, 0, 0, 1, []),
  (25, .isub, 1, 0, 0, 0, 0, 0, []),
  (26, .iaload, 1, 0, 0, 0, 0, 0, []),
  (27, .goto 4, 3, 31, 0, 0, 0, 0, []),
  (30, .iconst (-1), 1, 0, 0, 0, 0, (-1), []),
  (31, .ireturn, 1, 0, 0, 0, 0, 0, [])]
abbrev kSpans_closeAhead : Nat := 47
def cSpans_closeAhead : List xE := [(0, .aload_n 0, 1, 0, 0, 0, 0, 0, []),
  (1, .getfield 38, 3, 5, 8, 0, 0, 0, [53]),
  (4, .ifCond .le 74, 3, 78, 0, 0, 0, 0, []),
  (7, .aload_n 0, 1, 0, 0, 0, 0, 0, []),
  (8, .invokevirtual 57, 3, 46, 1, 1, 1, 5, [41]),
  (11, .istore 4, 2, 4, 0, 0, 0, 0, []),
  (13, .iload 4, 2, 4, 0, 0, 0, 0, []),
  (15, .ifCond .lt 10, 3, 25, 0, 0, 0, 0, []),
  (18, .iload 4, 2, 4, 0, 0, 0, 0, []),
  (20, .bipush 60, 2, 0, 0, 0, 0, 60, []),
  (22, .if_icmp .lt 4, 3, 26, 0, 0, 0, 0, []),
  (25, .return_, 1, 0, 0, 0, 0, 0, []),
  (26, .aload_n 3, 1, 3, 0, 0, 0, 0, []),
  (27, .getfield 50, 3, 6, 1, 4, 60, 1, [56]),
  (30, .iload 4, 2, 4, 0, 0, 0, 0, []),
  (32, .laload, 1, 0, 0, 0, 0, 0, []),
  (33, .aload_n 3, 1, 3, 0, 0, 0, 0, []),
  (34, .getfield 69, 3, 6, 2, 3, 60, 2, [57]),
  (37, .iload 4, 2, 4, 0, 0, 0, 0, []),
  (39, .iaload, 1, 0, 0, 0, 0, 0, []),
  (40, .invokestatic 72, 3, 120, 1, 1, 1, 0, [43]),
  (43, .ladd, 1, 0, 0, 0, 0, 0, []),
  (44, .lconst 1, 1, 0, 0, 0, 0, 1, []),
  (45, .lsub, 1, 0, 0, 0, 0, 0, []),
  (46, .lstore 5, 2, 5, 0, 0, 0, 0, []),
  (48, .lload 5, 2, 5, 0, 0, 0, 0, []),
  (50, .lload_n 1, 1, 1, 0, 0, 0, 0, []),
  (51, .lcmp, 4, 56, 2, 0, 0, 0, []),
  (55, .return_, 1, 0, 0, 0, 0, 0, []),
  (56, .aload_n 0, 1, 0, 0, 0, 0, 0, []),
  (57, .iload 4, 2, 4, 0, 0, 0, 0, []),
  (59, .lload 5, 2, 5, 0, 0, 0, 0, []),
  (61, .aload_n 3, 1, 3, 0, 0, 0, 0, []),
  (62, .invokevirtual 61, 3, 48, 4, 7, 0, 5, [42]),
  (65, .aload_n 0, 1, 0, 0, 0, 0, 0, []),
  (66, .dup, 1, 0, 0, 0, 0, 0, []),
  (67, .getfield 38, 3, 5, 8, 0, 0, 0, [53]),
  (70, .iconst 1, 1, 0, 0, 0, 0, 1, []),
  (71, .isub, 1, 0, 0, 0, 0, 0, []),
  (72, .putfield 38, 3, 5, 8, 0, 0, 0, [53]),
  (75, .goto (-75), 3, 0, 0, 0, 0, 0, []),
  (78, .return_, 1, 0, 0, 0, 0, 0, [])]
abbrev kSpans_emit : Nat := 48
def cSpans_emit : List xE := [(0, .lload_n 2, 1, 2, 0, 0, 0, 0, []),
  (1, .aload_n 0, 1, 0, 0, 0, 0, 0, []),
  (2, .getfield 41, 3, 5, 9, 1, 0, 0, [54]),
  (5, .lcmp, 4, 10, 3, 0, 0, 0, []),
  (9, .return_, 1, 0, 0, 0, 0, 0, []),
  (10, .iconst (-1), 1, 0, 0, 0, 0, (-1), []),
  (11, .istore 5, 2, 5, 0, 0, 0, 0, []),
  (13, .iload_n 1, 1, 1, 0, 0, 0, 0, []),
  (14, .ifCond .lt 35, 3, 49, 0, 0, 0, 0, []),
  (17, .iload_n 1, 1, 1, 0, 0, 0, 0, []),
  (18, .bipush 60, 2, 0, 0, 0, 0, 60, []),
  (20, .if_icmp .ge 29, 3, 49, 0, 0, 0, 0, []),
  (23, .aload_n 0, 1, 0, 0, 0, 0, 0, []),
  (24, .getfield 25, 3, 5, 5, 4, 60, 5, [49]),
  (27, .iload_n 1, 1, 1, 0, 0, 0, 0, []),
  (28, .dup2, 1, 0, 0, 0, 0, 0, []),
  (29, .laload, 1, 0, 0, 0, 0, 0, []),
  (30, .lload_n 2, 1, 2, 0, 0, 0, 0, []),
  (31, .aload_n 0, 1, 0, 0, 0, 0, 0, []),
  (32, .getfield 41, 3, 5, 9, 1, 0, 0, [54]),
  (35, .lsub, 1, 0, 0, 0, 0, 0, []),
  (36, .lconst 1, 1, 0, 0, 0, 0, 1, []),
  (37, .ladd, 1, 0, 0, 0, 0, 0, []),
  (38, .ladd, 1, 0, 0, 0, 0, 0, []),
  (39, .lastore, 1, 0, 0, 0, 0, 0, []),
  (40, .aload 4, 2, 4, 0, 0, 0, 0, []),
  (42, .getfield 76, 3, 6, 3, 3, 60, 3, [58]),
  (45, .iload_n 1, 1, 1, 0, 0, 0, 0, []),
  (46, .iaload, 1, 0, 0, 0, 0, 0, []),
  (47, .istore 5, 2, 5, 0, 0, 0, 0, []),
  (49, .iload 5, 2, 5, 0, 0, 0, 0, []),
  (51, .ifCond .lt 21, 3, 72, 0, 0, 0, 0, []),
  (54, .iload 5, 2, 5, 0, 0, 0, 0, []),
  (56, .bipush 60, 2, 0, 0, 0, 0, 60, []),
  (58, .if_icmp .ge 14, 3, 72, 0, 0, 0, 0, []),
  (61, .aload 4, 2, 4, 0, 0, 0, 0, []),
  (63, .getfield 77, 3, 6, 4, 3, 60, 4, [59]),
  (66, .iload 5, 2, 5, 0, 0, 0, 0, []),
  (68, .iaload, 1, 0, 0, 0, 0, 0, []),
  (69, .goto 4, 3, 73, 0, 0, 0, 0, []),
  (72, .iconst (-1), 1, 0, 0, 0, 0, (-1), []),
  (73, .istore 6, 2, 6, 0, 0, 0, 0, []),
  (75, .aload_n 0, 1, 0, 0, 0, 0, 0, []),
  (76, .getfield 34, 3, 5, 0, 0, 0, 0, [52]),
  (79, .ifCond .le 43, 3, 122, 0, 0, 0, 0, []),
  (82, .aload_n 0, 1, 0, 0, 0, 0, 0, []),
  (83, .getfield 34, 3, 5, 0, 0, 0, 0, [52]),
  (86, .bipush 121, 2, 0, 0, 0, 0, 121, []),
  (88, .if_icmp .gt 34, 3, 122, 0, 0, 0, 0, []),
  (91, .aload_n 0, 1, 0, 0, 0, 0, 0, []),
  (92, .getfield 18, 3, 5, 3, 3, 121, 3, [47]),
  (95, .aload_n 0, 1, 0, 0, 0, 0, 0, []),
  (96, .getfield 34, 3, 5, 0, 0, 0, 0, [52]),
  (99, .iconst 1, 1, 0, 0, 0, 0, 1, []),
  (100, .isub, 1, 0, 0, 0, 0, 0, []),
  (101, .iaload, 1, 0, 0, 0, 0, 0, []),
  (102, .iload 5, 2, 5, 0, 0, 0, 0, []),
  (104, .if_icmp .ne 18, 3, 122, 0, 0, 0, 0, []),
  (107, .aload_n 0, 1, 0, 0, 0, 0, 0, []),
  (108, .getfield 15, 3, 5, 2, 4, 121, 2, [46]),
  (111, .aload_n 0, 1, 0, 0, 0, 0, 0, []),
  (112, .getfield 34, 3, 5, 0, 0, 0, 0, [52]),
  (115, .iconst 1, 1, 0, 0, 0, 0, 1, []),
  (116, .isub, 1, 0, 0, 0, 0, 0, []),
  (117, .lload_n 2, 1, 2, 0, 0, 0, 0, []),
  (118, .lastore, 1, 0, 0, 0, 0, 0, []),
  (119, .goto 67, 3, 186, 0, 0, 0, 0, []),
  (122, .aload_n 0, 1, 0, 0, 0, 0, 0, []),
  (123, .getfield 34, 3, 5, 0, 0, 0, 0, [52]),
  (126, .bipush 121, 2, 0, 0, 0, 0, 121, []),
  (128, .if_icmp .ge 58, 3, 186, 0, 0, 0, 0, []),
  (131, .aload_n 0, 1, 0, 0, 0, 0, 0, []),
  (132, .getfield 9, 3, 5, 1, 4, 121, 1, [45]),
  (135, .aload_n 0, 1, 0, 0, 0, 0, 0, []),
  (136, .getfield 34, 3, 5, 0, 0, 0, 0, [52]),
  (139, .aload_n 0, 1, 0, 0, 0, 0, 0, []),
  (140, .getfield 41, 3, 5, 9, 1, 0, 0, [54]),
  (143, .lastore, 1, 0, 0, 0, 0, 0, []),
  (144, .aload_n 0, 1, 0, 0, 0, 0, 0, []),
  (145, .getfield 15, 3, 5, 2, 4, 121, 2, [46]),
  (148, .aload_n 0, 1, 0, 0, 0, 0, 0, []),
  (149, .getfield 34, 3, 5, 0, 0, 0, 0, [52]),
  (152, .lload_n 2, 1, 2, 0, 0, 0, 0, []),
  (153, .lastore, 1, 0, 0, 0, 0, 0, []),
  (154, .aload_n 0, 1, 0, 0, 0, 0, 0, []),
  (155, .getfield 18, 3, 5, 3, 3, 121, 3, [47]),
  (158, .aload_n 0, 1, 0, 0, 0, 0, 0, []),
  (159, .getfield 34, 3, 5, 0, 0, 0, 0, [52]),
  (162, .iload 5, 2, 5, 0, 0, 0, 0, []),
  (164, .iastore, 1, 0, 0, 0, 0, 0, []),
  (165, .aload_n 0, 1, 0, 0, 0, 0, 0, []),
  (166, .getfield 22, 3, 5, 4, 3, 121, 4, [48]),
  (169, .aload_n 0, 1, 0, 0, 0, 0, 0, []),
  (170, .getfield 34, 3, 5, 0, 0, 0, 0, [52]),
  (173, .iload 6, 2, 6, 0, 0, 0, 0, []),
  (175, .iastore, 1, 0, 0, 0, 0, 0, []),
  (176, .aload_n 0, 1, 0, 0, 0, 0, 0, []),
  (177, .dup, 1, 0, 0, 0, 0, 0, []),
  (178, .getfield 34, 3, 5, 0, 0, 0, 0, [52]),
  (181, .iconst 1, 1, 0, 0, 0, 0, 1, []),
  (182, .iadd, 1, 0, 0, 0, 0, 0, []),
  (183, .putfield 34, 3, 5, 0, 0, 0, 0, [52]),
  (186, .aload_n 0, 1, 0, 0, 0, 0, 0, []),
  (187, .lload_n 2, 1, 2, 0, 0, 0, 0, []),
  (188, .lconst 1, 1, 0, 0, 0, 0, 1, []),
  (189, .ladd, 1, 0, 0, 0, 0, 0, []),
  (190, .putfield 41, 3, 5, 9, 1, 0, 0, [54]),
  (193, .return_, 1, 0, 0, 0, 0, 0, [])]
abbrev kSpans_spanWith : Nat := 49
def cSpans_spanWith : List xE := [(0, .iload_n 3, 1, 3, 0, 0, 0, 0, []),
  (1, .ifCond .ge 7, 3, 8, 0, 0, 0, 0, []),
  (4, .iconst 0, 1, 0, 0, 0, 0, 0, []),
  (5, .goto 4, 3, 9, 0, 0, 0, 0, []),
  (8, .iload_n 3, 1, 3, 0, 0, 0, 0, []),
  (9, .istore 4, 2, 4, 0, 0, 0, 0, []),
  (11, .iload 4, 2, 4, 0, 0, 0, 0, []),
  (13, .aload_n 0, 1, 0, 0, 0, 0, 0, []),
  (14, .getfield 34, 3, 5, 0, 0, 0, 0, [52]),
  (17, .iconst 1, 1, 0, 0, 0, 0, 1, []),
  (18, .isub, 1, 0, 0, 0, 0, 0, []),
  (19, .if_icmp .ge 28, 3, 47, 0, 0, 0, 0, []),
  (22, .iload 4, 2, 4, 0, 0, 0, 0, []),
  (24, .bipush 120, 2, 0, 0, 0, 0, 120, []),
  (26, .if_icmp .ge 21, 3, 47, 0, 0, 0, 0, []),
  (29, .aload_n 0, 1, 0, 0, 0, 0, 0, []),
  (30, .getfield 15, 3, 5, 2, 4, 121, 2, [46]),
  (33, .iload 4, 2, 4, 0, 0, 0, 0, []),
  (35, .laload, 1, 0, 0, 0, 0, 0, []),
  (36, .lload_n 1, 1, 1, 0, 0, 0, 0, []),
  (37, .lcmp, 4, 47, 3, 0, 0, 0, []),
  (41, .iinc 4 1, 3, 4, 0, 0, 0, 1, []),
  (44, .goto (-33), 3, 11, 0, 0, 0, 0, []),
  (47, .iload 4, 2, 4, 0, 0, 0, 0, []),
  (49, .bipush 120, 2, 0, 0, 0, 0, 120, []),
  (51, .invokestatic 80, 3, 9004, 0, 0, 0, 0, []),
  (54, .ireturn, 1, 0, 0, 0, 0, 0, [])]
abbrev kSpans_idle : Nat := 50
def cSpans_idle : List xE := [(0, .iconst 0, 1, 0, 0, 0, 0, 0, []),
  (1, .istore_n 2, 1, 2, 0, 0, 0, 0, []),
  (2, .iconst 0, 1, 0, 0, 0, 0, 0, []),
  (3, .istore_n 3, 1, 3, 0, 0, 0, 0, []),
  (4, .iload_n 3, 1, 3, 0, 0, 0, 0, []),
  (5, .iload_n 1, 1, 1, 0, 0, 0, 0, []),
  (6, .if_icmp .ge 34, 3, 40, 0, 0, 0, 0, []),
  (9, .iload_n 3, 1, 3, 0, 0, 0, 0, []),
  (10, .bipush 60, 2, 0, 0, 0, 0, 60, []),
  (12, .if_icmp .ge 28, 3, 40, 0, 0, 0, 0, []),
  (15, .iload_n 2, 1, 2, 0, 0, 0, 0, []),
  (16, .aload_n 0, 1, 0, 0, 0, 0, 0, []),
  (17, .getfield 25, 3, 5, 5, 4, 60, 5, [49]),
  (20, .iload_n 3, 1, 3, 0, 0, 0, 0, []),
  (21, .laload, 1, 0, 0, 0, 0, 0, []),
  (22, .lconst 0, 1, 0, 0, 0, 0, 0, []),
  (23, .lcmp, 4, 31, 1, 0, 0, 0, []),
  (27, .iconst 1, 1, 0, 0, 0, 0, 1, []),
  (28, .goto 4, 3, 32, 0, 0, 0, 0, []),
  (31, .iconst 0, 1, 0, 0, 0, 0, 0, []),
  (32, .iadd, 1, 0, 0, 0, 0, 0, []),
  (33, .istore_n 2, 1, 2, 0, 0, 0, 0, []),
  (34, .iinc 3 1, 3, 3, 0, 0, 0, 1, []),
  (37, .goto (-33), 3, 4, 0, 0, 0, 0, []),
  (40, .iload_n 2, 1, 2, 0, 0, 0, 0, []),
  (41, .ireturn, 1, 0, 0, 0, 0, 0, [])]
abbrev kSpans_addressesWith : Nat := 51
def cSpans_addressesWith : List xE := [(0, .lconst 0, 1, 0, 0, 0, 0, 0, []),
  (1, .lstore_n 2, 1, 2, 0, 0, 0, 0, []),
  (2, .iconst 0, 1, 0, 0, 0, 0, 0, []),
  (3, .istore 4, 2, 4, 0, 0, 0, 0, []),
  (5, .iload 4, 2, 4, 0, 0, 0, 0, []),
  (7, .aload_n 0, 1, 0, 0, 0, 0, 0, []),
  (8, .getfield 34, 3, 5, 0, 0, 0, 0, [52]),
  (11, .if_icmp .ge 51, 3, 62, 0, 0, 0, 0, []),
  (14, .iload 4, 2, 4, 0, 0, 0, 0, []),
  (16, .bipush 121, 2, 0, 0, 0, 0, 121, []),
  (18, .if_icmp .ge 44, 3, 62, 0, 0, 0, 0, []),
  (21, .lload_n 2, 1, 2, 0, 0, 0, 0, []),
  (22, .aload_n 0, 1, 0, 0, 0, 0, 0, []),
  (23, .getfield 18, 3, 5, 3, 3, 121, 3, [47]),
  (26, .iload 4, 2, 4, 0, 0, 0, 0, []),
  (28, .iaload, 1, 0, 0, 0, 0, 0, []),
  (29, .iload_n 1, 1, 1, 0, 0, 0, 0, []),
  (30, .if_icmp .ne 23, 3, 53, 0, 0, 0, 0, []),
  (33, .aload_n 0, 1, 0, 0, 0, 0, 0, []),
  (34, .getfield 15, 3, 5, 2, 4, 121, 2, [46]),
  (37, .iload 4, 2, 4, 0, 0, 0, 0, []),
  (39, .laload, 1, 0, 0, 0, 0, 0, []),
  (40, .aload_n 0, 1, 0, 0, 0, 0, 0, []),
  (41, .getfield 9, 3, 5, 1, 4, 121, 1, [45]),
  (44, .iload 4, 2, 4, 0, 0, 0, 0, []),
  (46, .laload, 1, 0, 0, 0, 0, 0, []),
  (47, .lsub, 1, 0, 0, 0, 0, 0, []),
  (48, .lconst 1, 1, 0, 0, 0, 0, 1, []),
  (49, .ladd, 1, 0, 0, 0, 0, 0, []),
  (50, .goto 4, 3, 54, 0, 0, 0, 0, []),
  (53, .lconst 0, 1, 0, 0, 0, 0, 0, []),
  (54, .ladd, 1, 0, 0, 0, 0, 0, []),
  (55, .lstore_n 2, 1, 2, 0, 0, 0, 0, []),
  (56, .iinc 4 1, 3, 4, 0, 0, 0, 1, []),
  (59, .goto (-54), 3, 5, 0, 0, 0, 0, []),
  (62, .lload_n 2, 1, 2, 0, 0, 0, 0, []),
  (63, .lreturn, 1, 0, 0, 0, 0, 0, [])]
abbrev kSpans_differing : Nat := 52
def cSpans_differing : List xE := [(0, .lconst 0, 1, 0, 0, 0, 0, 0, []),
  (1, .lstore_n 3, 1, 3, 0, 0, 0, 0, []),
  (2, .iconst 0, 1, 0, 0, 0, 0, 0, []),
  (3, .istore 5, 2, 5, 0, 0, 0, 0, []),
  (5, .iconst 0, 1, 0, 0, 0, 0, 0, []),
  (6, .istore 6, 2, 6, 0, 0, 0, 0, []),
  (8, .iload 5, 2, 5, 0, 0, 0, 0, []),
  (10, .aload_n 0, 1, 0, 0, 0, 0, 0, []),
  (11, .getfield 34, 3, 5, 0, 0, 0, 0, [52]),
  (14, .if_icmp .ge 159, 3, 173, 0, 0, 0, 0, []),
  (17, .iload 5, 2, 5, 0, 0, 0, 0, []),
  (19, .bipush 121, 2, 0, 0, 0, 0, 121, []),
  (21, .if_icmp .ge 152, 3, 173, 0, 0, 0, 0, []),
  (24, .iload 6, 2, 6, 0, 0, 0, 0, []),
  (26, .aload_n 1, 1, 1, 0, 0, 0, 0, []),
  (27, .getfield 34, 3, 5, 0, 0, 0, 0, [52]),
  (30, .if_icmp .ge 143, 3, 173, 0, 0, 0, 0, []),
  (33, .iload 6, 2, 6, 0, 0, 0, 0, []),
  (35, .bipush 121, 2, 0, 0, 0, 0, 121, []),
  (37, .if_icmp .ge 136, 3, 173, 0, 0, 0, 0, []),
  (40, .aload_n 0, 1, 0, 0, 0, 0, 0, []),
  (41, .getfield 9, 3, 5, 1, 4, 121, 1, [45]),
  (44, .iload 5, 2, 5, 0, 0, 0, 0, []),
  (46, .laload, 1, 0, 0, 0, 0, 0, []),
  (47, .aload_n 1, 1, 1, 0, 0, 0, 0, []),
  (48, .getfield 9, 3, 5, 1, 4, 121, 1, [45]),
  (51, .iload 6, 2, 6, 0, 0, 0, 0, []),
  (53, .laload, 1, 0, 0, 0, 0, 0, []),
  (54, .invokestatic 86, 3, 9005, 0, 0, 0, 0, []),
  (57, .lstore 7, 2, 7, 0, 0, 0, 0, []),
  (59, .aload_n 0, 1, 0, 0, 0, 0, 0, []),
  (60, .getfield 15, 3, 5, 2, 4, 121, 2, [46]),
  (63, .iload 5, 2, 5, 0, 0, 0, 0, []),
  (65, .laload, 1, 0, 0, 0, 0, 0, []),
  (66, .aload_n 1, 1, 1, 0, 0, 0, 0, []),
  (67, .getfield 15, 3, 5, 2, 4, 121, 2, [46]),
  (70, .iload 6, 2, 6, 0, 0, 0, 0, []),
  (72, .laload, 1, 0, 0, 0, 0, 0, []),
  (73, .invokestatic 90, 3, 9006, 0, 0, 0, 0, []),
  (76, .lstore 9, 2, 9, 0, 0, 0, 0, []),
  (78, .aload_n 0, 1, 0, 0, 0, 0, 0, []),
  (79, .getfield 22, 3, 5, 4, 3, 121, 4, [48]),
  (82, .iload 5, 2, 5, 0, 0, 0, 0, []),
  (84, .iaload, 1, 0, 0, 0, 0, 0, []),
  (85, .aload_n 1, 1, 1, 0, 0, 0, 0, []),
  (86, .getfield 22, 3, 5, 4, 3, 121, 4, [48]),
  (89, .iload 6, 2, 6, 0, 0, 0, 0, []),
  (91, .iaload, 1, 0, 0, 0, 0, 0, []),
  (92, .if_icmp .eq 20, 3, 112, 0, 0, 0, 0, []),
  (95, .iload_n 2, 1, 2, 0, 0, 0, 0, []),
  (96, .ifCond .eq 6, 3, 102, 0, 0, 0, 0, []),
  (99, .lload 7, 2, 7, 0, 0, 0, 0, []),
  (101, .lreturn, 1, 0, 0, 0, 0, 0, []),
  (102, .lload_n 3, 1, 3, 0, 0, 0, 0, []),
  (103, .lload 9, 2, 9, 0, 0, 0, 0, []),
  (105, .lload 7, 2, 7, 0, 0, 0, 0, []),
  (107, .lsub, 1, 0, 0, 0, 0, 0, []),
  (108, .lconst 1, 1, 0, 0, 0, 0, 1, []),
  (109, .ladd, 1, 0, 0, 0, 0, 0, []),
  (110, .ladd, 1, 0, 0, 0, 0, 0, []),
  (111, .lstore_n 3, 1, 3, 0, 0, 0, 0, []),
  (112, .aload_n 1, 1, 1, 0, 0, 0, 0, []),
  (113, .getfield 15, 3, 5, 2, 4, 121, 2, [46]),
  (116, .iload 6, 2, 6, 0, 0, 0, 0, []),
  (118, .laload, 1, 0, 0, 0, 0, 0, []),
  (119, .lload 9, 2, 9, 0, 0, 0, 0, []),
  (121, .lcmp, 4, 129, 4, 0, 0, 0, []),
  (125, .iconst 1, 1, 0, 0, 0, 0, 1, []),
  (126, .goto 4, 3, 130, 0, 0, 0, 0, []),
  (129, .iconst 0, 1, 0, 0, 0, 0, 0, []),
  (130, .istore 11, 2, 11, 0, 0, 0, 0, []),
  (132, .iload 5, 2, 5, 0, 0, 0, 0, []),
  (134, .aload_n 0, 1, 0, 0, 0, 0, 0, []),
  (135, .getfield 15, 3, 5, 2, 4, 121, 2, [46]),
  (138, .iload 5, 2, 5, 0, 0, 0, 0, []),
  (140, .laload, 1, 0, 0, 0, 0, 0, []),
  (141, .lload 9, 2, 9, 0, 0, 0, 0, []),
  (143, .lcmp, 4, 151, 4, 0, 0, 0, []),
  (147, .iconst 1, 1, 0, 0, 0, 0, 1, []),
  (148, .goto 4, 3, 152, 0, 0, 0, 0, []),
  (151, .iconst 0, 1, 0, 0, 0, 0, 0, []),
  (152, .iadd, 1, 0, 0, 0, 0, 0, []),
  (153, .istore 5, 2, 5, 0, 0, 0, 0, []),
  (155, .iload 6, 2, 6, 0, 0, 0, 0, []),
  (157, .iload 11, 2, 11, 0, 0, 0, 0, []),
  (159, .ifCond .eq 7, 3, 166, 0, 0, 0, 0, []),
  (162, .iconst 1, 1, 0, 0, 0, 0, 1, []),
  (163, .goto 4, 3, 167, 0, 0, 0, 0, []),
  (166, .iconst 0, 1, 0, 0, 0, 0, 0, []),
  (167, .iadd, 1, 0, 0, 0, 0, 0, []),
  (168, .istore 6, 2, 6, 0, 0, 0, 0, []),
  (170, .goto (-162), 3, 8, 0, 0, 0, 0, []),
  (173, .iload_n 2, 1, 2, 0, 0, 0, 0, []),
  (174, .ifCond .eq 9, 3, 183, 0, 0, 0, 0, []),
  (177, .ldc2_w 92, 3, 0, 0, 0, 0, (-2), [9]),
  (180, .goto 4, 3, 184, 0, 0, 0, 0, []),
  (183, .lload_n 3, 1, 3, 0, 0, 0, 0, []),
  (184, .lreturn, 1, 0, 0, 0, 0, 0, [])]
abbrev kTable_takeFirstStrides : Nat := 53
def cTable_takeFirstStrides : List xE := [(0, .aload_n 0, 1, 0, 0, 0, 0, 0, []),
  (1, .bipush 8, 2, 0, 0, 0, 0, 8, []),
  (3, .putfield 34, 3, 6, 6, 0, 0, 0, [66]),
  (6, .iconst 0, 1, 0, 0, 0, 0, 0, []),
  (7, .istore_n 1, 1, 1, 0, 0, 0, 0, []),
  (8, .iload_n 1, 1, 1, 0, 0, 0, 0, []),
  (9, .bipush 8, 2, 0, 0, 0, 0, 8, []),
  (11, .if_icmp .ge 16, 3, 27, 0, 0, 0, 0, []),
  (14, .aload_n 0, 1, 0, 0, 0, 0, 0, []),
  (15, .getfield 28, 3, 6, 7, 3, 16, 6, [65]),
  (18, .iload_n 1, 1, 1, 0, 0, 0, 0, []),
  (19, .iconst 4, 1, 0, 0, 0, 0, 4, []),
  (20, .iastore, 1, 0, 0, 0, 0, 0, []),
  (21, .iinc 1 1, 3, 1, 0, 0, 0, 1, []),
  (24, .goto (-16), 3, 8, 0, 0, 0, 0, []),
  (27, .return_, 1, 0, 0, 0, 0, 0, [])]
abbrev kTable_clear : Nat := 54
def cTable_clear : List xE := [(0, .aload_n 0, 1, 0, 0, 0, 0, 0, []),
  (1, .iconst 0, 1, 0, 0, 0, 0, 0, []),
  (2, .putfield 38, 3, 6, 0, 0, 0, 0, [67]),
  (5, .iconst 0, 1, 0, 0, 0, 0, 0, []),
  (6, .istore_n 1, 1, 1, 0, 0, 0, 0, []),
  (7, .iload_n 1, 1, 1, 0, 0, 0, 0, []),
  (8, .bipush 60, 2, 0, 0, 0, 0, 60, []),
  (10, .if_icmp .ge 16, 3, 26, 0, 0, 0, 0, []),
  (13, .aload_n 0, 1, 0, 0, 0, 0, 0, []),
  (14, .getfield 25, 3, 6, 5, 3, 60, 5, [64]),
  (17, .iload_n 1, 1, 1, 0, 0, 0, 0, []),
  (18, .iconst 0, 1, 0, 0, 0, 0, 0, []),
  (19, .iastore, 1, 0, 0, 0, 0, 0, []),
  (20, .iinc 1 1, 3, 1, 0, 0, 0, 1, []),
  (23, .goto (-16), 3, 7, 0, 0, 0, 0, []),
  (26, .aload_n 0, 1, 0, 0, 0, 0, 0, []),
  (27, .invokevirtual 31, 3, 53, 1, 2, 0, 6, [44]),
  (30, .return_, 1, 0, 0, 0, 0, 0, [])]
abbrev kTable_copyFrom : Nat := 55
def cTable_copyFrom : List xE := [(0, .aload_n 0, 1, 0, 0, 0, 0, 0, []),
  (1, .aload_n 1, 1, 1, 0, 0, 0, 0, []),
  (2, .getfield 38, 3, 6, 0, 0, 0, 0, [67]),
  (5, .putfield 38, 3, 6, 0, 0, 0, 0, [67]),
  (8, .iconst 0, 1, 0, 0, 0, 0, 0, []),
  (9, .istore_n 2, 1, 2, 0, 0, 0, 0, []),
  (10, .iload_n 2, 1, 2, 0, 0, 0, 0, []),
  (11, .bipush 60, 2, 0, 0, 0, 0, 60, []),
  (13, .if_icmp .ge 69, 3, 82, 0, 0, 0, 0, []),
  (16, .aload_n 0, 1, 0, 0, 0, 0, 0, []),
  (17, .getfield 9, 3, 6, 1, 4, 60, 1, [60]),
  (20, .iload_n 2, 1, 2, 0, 0, 0, 0, []),
  (21, .aload_n 1, 1, 1, 0, 0, 0, 0, []),
  (22, .getfield 9, 3, 6, 1, 4, 60, 1, [60]),
  (25, .iload_n 2, 1, 2, 0, 0, 0, 0, []),
  (26, .laload, 1, 0, 0, 0, 0, 0, []),
  (27, .lastore, 1, 0, 0, 0, 0, 0, []),
  (28, .aload_n 0, 1, 0, 0, 0, 0, 0, []),
  (29, .getfield 15, 3, 6, 2, 3, 60, 2, [61]),
  (32, .iload_n 2, 1, 2, 0, 0, 0, 0, []),
  (33, .aload_n 1, 1, 1, 0, 0, 0, 0, []),
  (34, .getfield 15, 3, 6, 2, 3, 60, 2, [61]),
  (37, .iload_n 2, 1, 2, 0, 0, 0, 0, []),
  (38, .iaload, 1, 0, 0, 0, 0, 0, []),
  (39, .iastore, 1, 0, 0, 0, 0, 0, []),
  (40, .aload_n 0, 1, 0, 0, 0, 0, 0, []),
  (41, .getfield 19, 3, 6, 3, 3, 60, 3, [62]),
  (44, .iload_n 2, 1, 2, 0, 0, 0, 0, []),
  (45, .aload_n 1, 1, 1, 0, 0, 0, 0, []),
  (46, .getfield 19, 3, 6, 3, 3, 60, 3, [62]),
  (49, .iload_n 2, 1, 2, 0, 0, 0, 0, []),
  (50, .iaload, 1, 0, 0, 0, 0, 0, []),
  (51, .iastore, 1, 0, 0, 0, 0, 0, []),
  (52, .aload_n 0, 1, 0, 0, 0, 0, 0, []),
  (53, .getfield 22, 3, 6, 4, 3, 60, 4, [63]),
  (56, .iload_n 2, 1, 2, 0, 0, 0, 0, []),
  (57, .aload_n 1, 1, 1, 0, 0, 0, 0, []),
  (58, .getfield 22, 3, 6, 4, 3, 60, 4, [63]),
  (61, .iload_n 2, 1, 2, 0, 0, 0, 0, []),
  (62, .iaload, 1, 0, 0, 0, 0, 0, []),
  (63, .iastore, 1, 0, 0, 0, 0, 0, []),
  (64, .aload_n 0, 1, 0, 0, 0, 0, 0, []),
  (65, .getfield 25, 3, 6, 5, 3, 60, 5, [64]),
  (68, .iload_n 2, 1, 2, 0, 0, 0, 0, []),
  (69, .aload_n 1, 1, 1, 0, 0, 0, 0, []),
  (70, .getfield 25, 3, 6, 5, 3, 60, 5, [64]),
  (73, .iload_n 2, 1, 2, 0, 0, 0, 0, []),
  (74, .iaload, 1, 0, 0, 0, 0, 0, []),
  (75, .iastore, 1, 0, 0, 0, 0, 0, []),
  (76, .iinc 2 1, 3, 2, 0, 0, 0, 1, []),
  (79, .goto (-69), 3, 10, 0, 0, 0, 0, []),
  (82, .aload_n 0, 1, 0, 0, 0, 0, 0, []),
  (83, .aload_n 1, 1, 1, 0, 0, 0, 0, []),
  (84, .invokevirtual 41, 3, 56, 2, 3, 0, 6, [45]),
  (87, .return_, 1, 0, 0, 0, 0, 0, [])]
abbrev kTable_copyStrides : Nat := 56
def cTable_copyStrides : List xE := [(0, .aload_n 0, 1, 0, 0, 0, 0, 0, []),
  (1, .aload_n 1, 1, 1, 0, 0, 0, 0, []),
  (2, .getfield 34, 3, 6, 6, 0, 0, 0, [66]),
  (5, .putfield 34, 3, 6, 6, 0, 0, 0, [66]),
  (8, .iconst 0, 1, 0, 0, 0, 0, 0, []),
  (9, .istore_n 2, 1, 2, 0, 0, 0, 0, []),
  (10, .iload_n 2, 1, 2, 0, 0, 0, 0, []),
  (11, .bipush 16, 2, 0, 0, 0, 0, 16, []),
  (13, .if_icmp .ge 21, 3, 34, 0, 0, 0, 0, []),
  (16, .aload_n 0, 1, 0, 0, 0, 0, 0, []),
  (17, .getfield 28, 3, 6, 7, 3, 16, 6, [65]),
  (20, .iload_n 2, 1, 2, 0, 0, 0, 0, []),
  (21, .aload_n 1, 1, 1, 0, 0, 0, 0, []),
  (22, .getfield 28, 3, 6, 7, 3, 16, 6, [65]),
  (25, .iload_n 2, 1, 2, 0, 0, 0, 0, []),
  (26, .iaload, 1, 0, 0, 0, 0, 0, []),
  (27, .iastore, 1, 0, 0, 0, 0, 0, []),
  (28, .iinc 2 1, 3, 2, 0, 0, 0, 1, []),
  (31, .goto (-21), 3, 10, 0, 0, 0, 0, []),
  (34, .return_, 1, 0, 0, 0, 0, 0, [])]
abbrev kTable_hasStridesOf : Nat := 57
def cTable_hasStridesOf : List xE := [(0, .aload_n 0, 1, 0, 0, 0, 0, 0, []),
  (1, .getfield 34, 3, 6, 6, 0, 0, 0, [66]),
  (4, .aload_n 1, 1, 1, 0, 0, 0, 0, []),
  (5, .getfield 34, 3, 6, 6, 0, 0, 0, [66]),
  (8, .if_icmp .eq 5, 3, 13, 0, 0, 0, 0, []),
  (11, .iconst 0, 1, 0, 0, 0, 0, 0, []),
  (12, .ireturn, 1, 1, 0, 0, 0, 0, []),
  (13, .iconst 0, 1, 0, 0, 0, 0, 0, []),
  (14, .istore_n 2, 1, 2, 0, 0, 0, 0, []),
  (15, .iload_n 2, 1, 2, 0, 0, 0, 0, []),
  (16, .aload_n 0, 1, 0, 0, 0, 0, 0, []),
  (17, .getfield 34, 3, 6, 6, 0, 0, 0, [66]),
  (20, .if_icmp .ge 32, 3, 52, 0, 0, 0, 0, []),
  (23, .iload_n 2, 1, 2, 0, 0, 0, 0, []),
  (24, .bipush 16, 2, 0, 0, 0, 0, 16, []),
  (26, .if_icmp .ge 26, 3, 52, 0, 0, 0, 0, []),
  (29, .aload_n 0, 1, 0, 0, 0, 0, 0, []),
  (30, .getfield 28, 3, 6, 7, 3, 16, 6, [65]),
  (33, .iload_n 2, 1, 2, 0, 0, 0, 0, []),
  (34, .iaload, 1, 0, 0, 0, 0, 0, []),
  (35, .aload_n 1, 1, 1, 0, 0, 0, 0, []),
  (36, .getfield 28, 3, 6, 7, 3, 16, 6, [65]),
  (39, .iload_n 2, 1, 2, 0, 0, 0, 0, []),
  (40, .iaload, 1, 0, 0, 0, 0, 0, []),
  (41, .if_icmp .eq 5, 3, 46, 0, 0, 0, 0, []),
  (44, .iconst 0, 1, 0, 0, 0, 0, 0, []),
  (45, .ireturn, 1, 1, 0, 0, 0, 0, []),
  (46, .iinc 2 1, 3, 2, 0, 0, 0, 1, []),
  (49, .goto (-34), 3, 15, 0, 0, 0, 0, []),
  (52, .iconst 1, 1, 0, 0, 0, 0, 1, []),
  (53, .ireturn, 1, 1, 0, 0, 0, 0, [])]
abbrev kTable_takeStrides : Nat := 58
def cTable_takeStrides : List xE := [(0, .lload_n 1, 1, 1, 0, 0, 0, 0, []),
  (1, .lstore_n 3, 1, 3, 0, 0, 0, 0, []),
  (2, .iconst 0, 1, 0, 0, 0, 0, 0, []),
  (3, .istore 5, 2, 5, 0, 0, 0, 0, []),
  (5, .aload_n 0, 1, 0, 0, 0, 0, 0, []),
  (6, .iconst 0, 1, 0, 0, 0, 0, 0, []),
  (7, .putfield 34, 3, 6, 6, 0, 0, 0, [66]),
  (10, .iconst 0, 1, 0, 0, 0, 0, 0, []),
  (11, .istore 6, 2, 6, 0, 0, 0, 0, []),
  (13, .iload 6, 2, 6, 0, 0, 0, 0, []),
  (15, .bipush 16, 2, 0, 0, 0, 0, 16, []),
  (17, .if_icmp .ge 68, 3, 85, 0, 0, 0, 0, []),
  (20, .lload_n 3, 1, 3, 0, 0, 0, 0, []),
  (21, .lconst 0, 1, 0, 0, 0, 0, 0, []),
  (22, .lcmp, 4, 85, 5, 0, 0, 0, []),
  (26, .lload_n 3, 1, 3, 0, 0, 0, 0, []),
  (27, .ldc2_w 45, 3, 0, 0, 0, 0, 10, [10]),
  (30, .lrem, 1, 0, 0, 0, 0, 0, []),
  (31, .l2i, 1, 0, 0, 0, 0, 0, []),
  (32, .istore 7, 2, 7, 0, 0, 0, 0, []),
  (34, .iload 7, 2, 7, 0, 0, 0, 0, []),
  (36, .iconst 2, 1, 0, 0, 0, 0, 2, []),
  (37, .if_icmp .lt 10, 3, 47, 0, 0, 0, 0, []),
  (40, .iload 7, 2, 7, 0, 0, 0, 0, []),
  (42, .bipush 6, 2, 0, 0, 0, 0, 6, []),
  (44, .if_icmp .le 5, 3, 49, 0, 0, 0, 0, []),
  (47, .iconst 0, 1, 0, 0, 0, 0, 0, []),
  (48, .ireturn, 1, 1, 0, 0, 0, 0, []),
  (49, .aload_n 0, 1, 0, 0, 0, 0, 0, []),
  (50, .getfield 28, 3, 6, 7, 3, 16, 6, [65]),
  (53, .iload 6, 2, 6, 0, 0, 0, 0, []),
  (55, .iload 7, 2, 7, 0, 0, 0, 0, []),
  (57, .iastore, 1, 0, 0, 0, 0, 0, []),
  (58, .iload 5, 2, 5, 0, 0, 0, 0, []),
  (60, .iload 7, 2, 7, 0, 0, 0, 0, []),
  (62, .iadd, 1, 0, 0, 0, 0, 0, []),
  (63, .istore 5, 2, 5, 0, 0, 0, 0, []),
  (65, .aload_n 0, 1, 0, 0, 0, 0, 0, []),
  (66, .iload 6, 2, 6, 0, 0, 0, 0, []),
  (68, .iconst 1, 1, 0, 0, 0, 0, 1, []),
  (69, .iadd, 1, 0, 0, 0, 0, 0, []),
  (70, .putfield 34, 3, 6, 6, 0, 0, 0, [66]),
  (73, .lload_n 3, 1, 3, 0, 0, 0, 0, []),
  (74, .ldc2_w 45, 3, 0, 0, 0, 0, 10, [10]),
  (77, .ldiv, 1, 0, 0, 0, 0, 0, []),
  (78, .lstore_n 3, 1, 3, 0, 0, 0, 0, []),
  (79, .iinc 6 1, 3, 6, 0, 0, 0, 1, []),
  (82, .goto (-69), 3, 13, 0, 0, 0, 0, []),
  (85, .lload_n 3, 1, 3, 0, 0, 0, 0, []),
  (86, .lconst 0, 1, 0, 0, 0, 0, 0, []),
  (87, .lcmp, 4, 98, 1, 0, 0, 0, []),
  (91, .iload 5, 2, 5, 0, 0, 0, 0, []),
  (93, .bipush 32, 2, 0, 0, 0, 0, 32, []),
  (95, .if_icmp .eq 5, 3, 100, 0, 0, 0, 0, []),
  (98, .iconst 0, 1, 0, 0, 0, 0, 0, []),
  (99, .ireturn, 1, 1, 0, 0, 0, 0, []),
  (100, .aload_n 0, 1, 0, 0, 0, 0, 0, []),
  (101, .invokevirtual 47, 3, 59, 1, 4, 0, 6, [46]),
  (104, .iconst 1, 1, 0, 0, 0, 0, 1, []),
  (105, .ireturn, 1, 1, 0, 0, 0, 0, [])]
abbrev kTable_turnStrides : Nat := 59
def cTable_turnStrides : List xE := [(0, .iconst 0, 1, 0, 0, 0, 0, 0, []),
  (1, .istore_n 1, 1, 1, 0, 0, 0, 0, []),
  (2, .aload_n 0, 1, 0, 0, 0, 0, 0, []),
  (3, .getfield 34, 3, 6, 6, 0, 0, 0, [66]),
  (6, .iconst 1, 1, 0, 0, 0, 0, 1, []),
  (7, .isub, 1, 0, 0, 0, 0, 0, []),
  (8, .istore_n 2, 1, 2, 0, 0, 0, 0, []),
  (9, .iload_n 1, 1, 1, 0, 0, 0, 0, []),
  (10, .iload_n 2, 1, 2, 0, 0, 0, 0, []),
  (11, .if_icmp .ge 44, 3, 55, 0, 0, 0, 0, []),
  (14, .iload_n 2, 1, 2, 0, 0, 0, 0, []),
  (15, .bipush 16, 2, 0, 0, 0, 0, 16, []),
  (17, .if_icmp .ge 38, 3, 55, 0, 0, 0, 0, []),
  (20, .aload_n 0, 1, 0, 0, 0, 0, 0, []),
  (21, .getfield 28, 3, 6, 7, 3, 16, 6, [65]),
  (24, .iload_n 1, 1, 1, 0, 0, 0, 0, []),
  (25, .iaload, 1, 0, 0, 0, 0, 0, []),
  (26, .istore_n 3, 1, 3, 0, 0, 0, 0, []),
  (27, .aload_n 0, 1, 0, 0, 0, 0, 0, []),
  (28, .getfield 28, 3, 6, 7, 3, 16, 6, [65]),
  (31, .iload_n 1, 1, 1, 0, 0, 0, 0, []),
  (32, .aload_n 0, 1, 0, 0, 0, 0, 0, []),
  (33, .getfield 28, 3, 6, 7, 3, 16, 6, [65]),
  (36, .iload_n 2, 1, 2, 0, 0, 0, 0, []),
  (37, .iaload, 1, 0, 0, 0, 0, 0, []),
  (38, .iastore, 1, 0, 0, 0, 0, 0, []),
  (39, .aload_n 0, 1, 0, 0, 0, 0, 0, []),
  (40, .getfield 28, 3, 6, 7, 3, 16, 6, [65]),
  (43, .iload_n 2, 1, 2, 0, 0, 0, 0, []),
  (44, .iload_n 3, 1, 3, 0, 0, 0, 0, []),
  (45, .iastore, 1, 0, 0, 0, 0, 0, []),
  (46, .iinc 1 1, 3, 1, 0, 0, 0, 1, []),
  (49, .iinc 2 (-1), 3, 2, 0, 0, 0, (-1), []),
  (52, .goto (-43), 3, 9, 0, 0, 0, 0, []),
  (55, .return_, 1, 0, 0, 0, 0, 0, [])]
abbrev kTable_placeFor : Nat := 60
def cTable_placeFor : List xE := [(0, .iconst 0, 1, 0, 0, 0, 0, 0, []),
  (1, .istore 4, 2, 4, 0, 0, 0, 0, []),
  (3, .iload 4, 2, 4, 0, 0, 0, 0, []),
  (5, .aload_n 0, 1, 0, 0, 0, 0, 0, []),
  (6, .getfield 38, 3, 6, 0, 0, 0, 0, [67]),
  (9, .if_icmp .ge 51, 3, 60, 0, 0, 0, 0, []),
  (12, .iload 4, 2, 4, 0, 0, 0, 0, []),
  (14, .bipush 60, 2, 0, 0, 0, 0, 60, []),
  (16, .if_icmp .ge 44, 3, 60, 0, 0, 0, 0, []),
  (19, .aload_n 0, 1, 0, 0, 0, 0, 0, []),
  (20, .getfield 9, 3, 6, 1, 4, 60, 1, [60]),
  (23, .iload 4, 2, 4, 0, 0, 0, 0, []),
  (25, .laload, 1, 0, 0, 0, 0, 0, []),
  (26, .lload_n 1, 1, 1, 0, 0, 0, 0, []),
  (27, .lcmp, 4, 54, 2, 0, 0, 0, []),
  (31, .aload_n 0, 1, 0, 0, 0, 0, 0, []),
  (32, .getfield 9, 3, 6, 1, 4, 60, 1, [60]),
  (35, .iload 4, 2, 4, 0, 0, 0, 0, []),
  (37, .laload, 1, 0, 0, 0, 0, 0, []),
  (38, .lload_n 1, 1, 1, 0, 0, 0, 0, []),
  (39, .lcmp, 4, 60, 1, 0, 0, 0, []),
  (43, .aload_n 0, 1, 0, 0, 0, 0, 0, []),
  (44, .getfield 15, 3, 6, 2, 3, 60, 2, [61]),
  (47, .iload 4, 2, 4, 0, 0, 0, 0, []),
  (49, .iaload, 1, 0, 0, 0, 0, 0, []),
  (50, .iload_n 3, 1, 3, 0, 0, 0, 0, []),
  (51, .if_icmp .ge 9, 3, 60, 0, 0, 0, 0, []),
  (54, .iinc 4 1, 3, 4, 0, 0, 0, 1, []),
  (57, .goto (-54), 3, 3, 0, 0, 0, 0, []),
  (60, .iload 4, 2, 4, 0, 0, 0, 0, []),
  (62, .ireturn, 1, 0, 0, 0, 0, 0, [])]
abbrev kTable_find : Nat := 61
def cTable_find : List xE := [(0, .aload_n 0, 1, 0, 0, 0, 0, 0, []),
  (1, .lload_n 1, 1, 1, 0, 0, 0, 0, []),
  (2, .iload_n 3, 1, 3, 0, 0, 0, 0, []),
  (3, .invokevirtual 50, 3, 60, 3, 5, 1, 6, [47]),
  (6, .istore 4, 2, 4, 0, 0, 0, 0, []),
  (8, .iload 4, 2, 4, 0, 0, 0, 0, []),
  (10, .aload_n 0, 1, 0, 0, 0, 0, 0, []),
  (11, .getfield 38, 3, 6, 0, 0, 0, 0, [67]),
  (14, .if_icmp .ge 38, 3, 52, 0, 0, 0, 0, []),
  (17, .iload 4, 2, 4, 0, 0, 0, 0, []),
  (19, .bipush 60, 2, 0, 0, 0, 0, 60, []),
  (21, .if_icmp .ge 31, 3, 52, 0, 0, 0, 0, []),
  (24, .aload_n 0, 1, 0, 0, 0, 0, 0, []),
  (25, .getfield 9, 3, 6, 1, 4, 60, 1, [60]),
  (28, .iload 4, 2, 4, 0, 0, 0, 0, []),
  (30, .laload, 1, 0, 0, 0, 0, 0, []),
  (31, .lload_n 1, 1, 1, 0, 0, 0, 0, []),
  (32, .lcmp, 4, 52, 1, 0, 0, 0, []),
  (36, .aload_n 0, 1, 0, 0, 0, 0, 0, []),
  (37, .getfield 15, 3, 6, 2, 3, 60, 2, [61]),
  (40, .iload 4, 2, 4, 0, 0, 0, 0, []),
  (42, .iaload, 1, 0, 0, 0, 0, 0, []),
  (43, .iload_n 3, 1, 3, 0, 0, 0, 0, []),
  (44, .if_icmp .ne 8, 3, 52, 0, 0, 0, 0, []),
  (47, .iload 4, 2, 4, 0, 0, 0, 0, []),
  (49, .goto 4, 3, 53, 0, 0, 0, 0, []),
  (52, .iconst (-1), 1, 0, 0, 0, 0, (-1), []),
  (53, .ireturn, 1, 0, 0, 0, 0, 0, [])]
abbrev kTable_hasHop : Nat := 62
def cTable_hasHop : List xE := [(0, .iload_n 1, 1, 1, 0, 0, 0, 0, []),
  (1, .ifCond .lt 22, 3, 23, 0, 0, 0, 0, []),
  (4, .iload_n 1, 1, 1, 0, 0, 0, 0, []),
  (5, .bipush 60, 2, 0, 0, 0, 0, 60, []),
  (7, .if_icmp .ge 16, 3, 23, 0, 0, 0, 0, []),
  (10, .aload_n 0, 1, 0, 0, 0, 0, 0, []),
  (11, .getfield 25, 3, 6, 5, 3, 60, 5, [64]),
  (14, .iload_n 1, 1, 1, 0, 0, 0, 0, []),
  (15, .iaload, 1, 0, 0, 0, 0, 0, []),
  (16, .ifCond .le 7, 3, 23, 0, 0, 0, 0, []),
  (19, .iconst 1, 1, 0, 0, 0, 0, 1, []),
  (20, .goto 4, 3, 24, 0, 0, 0, 0, []),
  (23, .iconst 0, 1, 0, 0, 0, 0, 0, []),
  (24, .ireturn, 1, 1, 0, 0, 0, 0, [])]
abbrev kTable_hops : Nat := 63
def cTable_hops : List xE := [(0, .iconst 0, 1, 0, 0, 0, 0, 0, []),
  (1, .istore_n 1, 1, 1, 0, 0, 0, 0, []),
  (2, .iconst 0, 1, 0, 0, 0, 0, 0, []),
  (3, .istore_n 2, 1, 2, 0, 0, 0, 0, []),
  (4, .iload_n 2, 1, 2, 0, 0, 0, 0, []),
  (5, .bipush 60, 2, 0, 0, 0, 0, 60, []),
  (7, .if_icmp .ge 26, 3, 33, 0, 0, 0, 0, []),
  (10, .iload_n 1, 1, 1, 0, 0, 0, 0, []),
  (11, .aload_n 0, 1, 0, 0, 0, 0, 0, []),
  (12, .getfield 25, 3, 6, 5, 3, 60, 5, [64]),
  (15, .iload_n 2, 1, 2, 0, 0, 0, 0, []),
  (16, .iaload, 1, 0, 0, 0, 0, 0, []),
  (17, .ifCond .le 7, 3, 24, 0, 0, 0, 0, []),
  (20, .iconst 1, 1, 0, 0, 0, 0, 1, []),
  (21, .goto 4, 3, 25, 0, 0, 0, 0, []),
  (24, .iconst 0, 1, 0, 0, 0, 0, 0, []),
  (25, .iadd, 1, 0, 0, 0, 0, 0, []),
  (26, .istore_n 1, 1, 1, 0, 0, 0, 0, []),
  (27, .iinc 2 1, 3, 2, 0, 0, 0, 1, []),
  (30, .goto (-26), 3, 4, 0, 0, 0, 0, []),
  (33, .iload_n 1, 1, 1, 0, 0, 0, 0, []),
  (34, .ireturn, 1, 0, 0, 0, 0, 0, [])]
abbrev kTable_keyOfRule : Nat := 64
def cTable_keyOfRule : List xE := [(0, .iload_n 1, 1, 1, 0, 0, 0, 0, []),
  (1, .ifCond .lt 26, 3, 27, 0, 0, 0, 0, []),
  (4, .iload_n 1, 1, 1, 0, 0, 0, 0, []),
  (5, .aload_n 0, 1, 0, 0, 0, 0, 0, []),
  (6, .getfield 38, 3, 6, 0, 0, 0, 0, [67]),
  (9, .if_icmp .ge 18, 3, 27, 0, 0, 0, 0, []),
  (12, .iload_n 1, 1, 1, 0, 0, 0, 0, []),
  (13, .bipush 60, 2, 0, 0, 0, 0, 60, []),
  (15, .if_icmp .ge 12, 3, 27, 0, 0, 0, 0, []),
  (18, .aload_n 0, 1, 0, 0, 0, 0, 0, []),
  (19, .getfield 19, 3, 6, 3, 3, 60, 3, [62]),
  (22, .iload_n 1, 1, 1, 0, 0, 0, 0, []),
  (23, .iaload, 1, 0, 0, 0, 0, 0, []),
  (24, .goto 4, 3, 28, 0, 0, 0, 0, []),
  (27, .iconst (-1), 1, 0, 0, 0, 0, (-1), []),
  (28, .istore_n 2, 1, 2, 0, 0, 0, 0, []),
  (29, .aload_n 0, 1, 0, 0, 0, 0, 0, []),
  (30, .iload_n 2, 1, 2, 0, 0, 0, 0, []),
  (31, .invokevirtual 54, 3, 62, 2, 2, 1, 6, [48]),
  (34, .ifCond .eq 12, 3, 46, 0, 0, 0, 0, []),
  (37, .aload_n 0, 1, 0, 0, 0, 0, 0, []),
  (38, .getfield 22, 3, 6, 4, 3, 60, 4, [63]),
  (41, .iload_n 2, 1, 2, 0, 0, 0, 0, []),
  (42, .iaload, 1, 0, 0, 0, 0, 0, []),
  (43, .goto 4, 3, 47, 0, 0, 0, 0, []),
  (46, .iconst (-1), 1, 0, 0, 0, 0, (-1), []),
  (47, .ireturn, 1, 0, 0, 0, 0, 0, [])]
abbrev kTable_ruleOf : Nat := 65
def cTable_ruleOf : List xE := [(0, .iconst (-1), 1, 0, 0, 0, 0, (-1), []),
  (1, .istore_n 3, 1, 3, 0, 0, 0, 0, []),
  (2, .iconst 0, 1, 0, 0, 0, 0, 0, []),
  (3, .istore 4, 2, 4, 0, 0, 0, 0, []),
  (5, .iload 4, 2, 4, 0, 0, 0, 0, []),
  (7, .aload_n 0, 1, 0, 0, 0, 0, 0, []),
  (8, .getfield 38, 3, 6, 0, 0, 0, 0, [67]),
  (11, .if_icmp .ge 54, 3, 65, 0, 0, 0, 0, []),
  (14, .iload 4, 2, 4, 0, 0, 0, 0, []),
  (16, .bipush 60, 2, 0, 0, 0, 0, 60, []),
  (18, .if_icmp .ge 47, 3, 65, 0, 0, 0, 0, []),
  (21, .aload_n 0, 1, 0, 0, 0, 0, 0, []),
  (22, .getfield 9, 3, 6, 1, 4, 60, 1, [60]),
  (25, .iload 4, 2, 4, 0, 0, 0, 0, []),
  (27, .laload, 1, 0, 0, 0, 0, 0, []),
  (28, .lload_n 1, 1, 1, 0, 0, 0, 0, []),
  (29, .lcmp, 4, 59, 4, 0, 0, 0, []),
  (33, .lload_n 1, 1, 1, 0, 0, 0, 0, []),
  (34, .aload_n 0, 1, 0, 0, 0, 0, 0, []),
  (35, .getfield 9, 3, 6, 1, 4, 60, 1, [60]),
  (38, .iload 4, 2, 4, 0, 0, 0, 0, []),
  (40, .laload, 1, 0, 0, 0, 0, 0, []),
  (41, .aload_n 0, 1, 0, 0, 0, 0, 0, []),
  (42, .getfield 15, 3, 6, 2, 3, 60, 2, [61]),
  (45, .iload 4, 2, 4, 0, 0, 0, 0, []),
  (47, .iaload, 1, 0, 0, 0, 0, 0, []),
  (48, .invokestatic 58, 3, 120, 1, 1, 1, 0, [49]),
  (51, .ladd, 1, 0, 0, 0, 0, 0, []),
  (52, .lcmp, 4, 59, 3, 0, 0, 0, []),
  (56, .iload 4, 2, 4, 0, 0, 0, 0, []),
  (58, .istore_n 3, 1, 3, 0, 0, 0, 0, []),
  (59, .iinc 4 1, 3, 4, 0, 0, 0, 1, []),
  (62, .goto (-57), 3, 5, 0, 0, 0, 0, []),
  (65, .iload_n 3, 1, 3, 0, 0, 0, 0, []),
  (66, .ireturn, 1, 0, 0, 0, 0, 0, [])]
abbrev kTable_put : Nat := 66
def cTable_put : List xE := [(0, .aload_n 0, 1, 0, 0, 0, 0, 0, []),
  (1, .lload_n 1, 1, 1, 0, 0, 0, 0, []),
  (2, .iload_n 3, 1, 3, 0, 0, 0, 0, []),
  (3, .invokevirtual 62, 3, 61, 3, 5, 1, 6, [50]),
  (6, .istore 5, 2, 5, 0, 0, 0, 0, []),
  (8, .iload 5, 2, 5, 0, 0, 0, 0, []),
  (10, .ifCond .lt 22, 3, 32, 0, 0, 0, 0, []),
  (13, .aload_n 0, 1, 0, 0, 0, 0, 0, []),
  (14, .iload 5, 2, 5, 0, 0, 0, 0, []),
  (16, .invokevirtual 65, 3, 64, 2, 3, 1, 6, [51]),
  (19, .iload 4, 2, 4, 0, 0, 0, 0, []),
  (21, .if_icmp .ne 11, 3, 32, 0, 0, 0, 0, []),
  (24, .aload_n 0, 1, 0, 0, 0, 0, 0, []),
  (25, .getfield 19, 3, 6, 3, 3, 60, 3, [62]),
  (28, .iload 5, 2, 5, 0, 0, 0, 0, []),
  (30, .iaload, 1, 0, 0, 0, 0, 0, []),
  (31, .ireturn, 1, 0, 0, 0, 0, 0, []),
  (32, .iload 5, 2, 5, 0, 0, 0, 0, []),
  (34, .ifCond .lt 17, 3, 51, 0, 0, 0, 0, []),
  (37, .aload_n 0, 1, 0, 0, 0, 0, 0, []),
  (38, .aload_n 0, 1, 0, 0, 0, 0, 0, []),
  (39, .getfield 19, 3, 6, 3, 3, 60, 3, [62]),
  (42, .iload 5, 2, 5, 0, 0, 0, 0, []),
  (44, .iaload, 1, 0, 0, 0, 0, 0, []),
  (45, .invokevirtual 69, 3, 69, 2, 2, 0, 6, [52]),
  (48, .goto 11, 3, 59, 0, 0, 0, 0, []),
  (51, .aload_n 0, 1, 0, 0, 0, 0, 0, []),
  (52, .lload_n 1, 1, 1, 0, 0, 0, 0, []),
  (53, .iload_n 3, 1, 3, 0, 0, 0, 0, []),
  (54, .invokevirtual 73, 3, 67, 3, 6, 1, 6, [53]),
  (57, .istore 5, 2, 5, 0, 0, 0, 0, []),
  (59, .iload 5, 2, 5, 0, 0, 0, 0, []),
  (61, .ifCond .ge 5, 3, 66, 0, 0, 0, 0, []),
  (64, .iconst (-1), 1, 0, 0, 0, 0, (-1), []),
  (65, .ireturn, 1, 0, 0, 0, 0, 0, []),
  (66, .aload_n 0, 1, 0, 0, 0, 0, 0, []),
  (67, .getfield 19, 3, 6, 3, 3, 60, 3, [62]),
  (70, .iload 5, 2, 5, 0, 0, 0, 0, []),
  (72, .aload_n 0, 1, 0, 0, 0, 0, 0, []),
  (73, .iload 4, 2, 4, 0, 0, 0, 0, []),
  (75, .invokevirtual 76, 3, 70, 2, 4, 1, 6, [54]),
  (78, .iastore, 1, 0, 0, 0, 0, 0, []),
  (79, .aload_n 0, 1, 0, 0, 0, 0, 0, []),
  (80, .getfield 19, 3, 6, 3, 3, 60, 3, [62]),
  (83, .iload 5, 2, 5, 0, 0, 0, 0, []),
  (85, .iaload, 1, 0, 0, 0, 0, 0, []),
  (86, .ireturn, 1, 0, 0, 0, 0, 0, [])]
abbrev kTable_makeRoom : Nat := 67
def cTable_makeRoom : List xE := [(0, .aload_n 0, 1, 0, 0, 0, 0, 0, []),
  (1, .getfield 38, 3, 6, 0, 0, 0, 0, [67]),
  (4, .bipush 60, 2, 0, 0, 0, 0, 60, []),
  (6, .if_icmp .lt 5, 3, 11, 0, 0, 0, 0, []),
  (9, .iconst (-1), 1, 0, 0, 0, 0, (-1), []),
  (10, .ireturn, 1, 0, 0, 0, 0, 0, []),
  (11, .aload_n 0, 1, 0, 0, 0, 0, 0, []),
  (12, .lload_n 1, 1, 1, 0, 0, 0, 0, []),
  (13, .iload_n 3, 1, 3, 0, 0, 0, 0, []),
  (14, .invokevirtual 50, 3, 60, 3, 5, 1, 6, [47]),
  (17, .istore 4, 2, 4, 0, 0, 0, 0, []),
  (19, .aload_n 0, 1, 0, 0, 0, 0, 0, []),
  (20, .getfield 38, 3, 6, 0, 0, 0, 0, [67]),
  (23, .istore 5, 2, 5, 0, 0, 0, 0, []),
  (25, .iload 5, 2, 5, 0, 0, 0, 0, []),
  (27, .iload 4, 2, 4, 0, 0, 0, 0, []),
  (29, .if_icmp .le 57, 3, 86, 0, 0, 0, 0, []),
  (32, .aload_n 0, 1, 0, 0, 0, 0, 0, []),
  (33, .getfield 9, 3, 6, 1, 4, 60, 1, [60]),
  (36, .iload 5, 2, 5, 0, 0, 0, 0, []),
  (38, .aload_n 0, 1, 0, 0, 0, 0, 0, []),
  (39, .getfield 9, 3, 6, 1, 4, 60, 1, [60]),
  (42, .iload 5, 2, 5, 0, 0, 0, 0, []),
  (44, .iconst 1, 1, 0, 0, 0, 0, 1, []),
  (45, .isub, 1, 0, 0, 0, 0, 0, []),
  (46, .laload, 1, 0, 0, 0, 0, 0, []),
  (47, .lastore, 1, 0, 0, 0, 0, 0, []),
  (48, .aload_n 0, 1, 0, 0, 0, 0, 0, []),
  (49, .getfield 15, 3, 6, 2, 3, 60, 2, [61]),
  (52, .iload 5, 2, 5, 0, 0, 0, 0, []),
  (54, .aload_n 0, 1, 0, 0, 0, 0, 0, []),
  (55, .getfield 15, 3, 6, 2, 3, 60, 2, [61]),
  (58, .iload 5, 2, 5, 0, 0, 0, 0, []),
  (60, .iconst 1, 1, 0, 0, 0, 0, 1, []),
  (61, .isub, 1, 0, 0, 0, 0, 0, []),
  (62, .iaload, 1, 0, 0, 0, 0, 0, []),
  (63, .iastore, 1, 0, 0, 0, 0, 0, []),
  (64, .aload_n 0, 1, 0, 0, 0, 0, 0, []),
  (65, .getfield 19, 3, 6, 3, 3, 60, 3, [62]),
  (68, .iload 5, 2, 5, 0, 0, 0, 0, []),
  (70, .aload_n 0, 1, 0, 0, 0, 0, 0, []),
  (71, .getfield 19, 3, 6, 3, 3, 60, 3, [62]),
  (74, .iload 5, 2, 5, 0, 0, 0, 0, []),
  (76, .iconst 1, 1, 0, 0, 0, 0, 1, []),
  (77, .isub, 1, 0, 0, 0, 0, 0, []),
  (78, .iaload, 1, 0, 0, 0, 0, 0, []),
  (79, .iastore, 1, 0, 0, 0, 0, 0, []),
  (80, .iinc 5 (-1), 3, 5, 0, 0, 0, (-1), []),
  (83, .goto (-58), 3, 25, 0, 0, 0, 0, []),
  (86, .aload_n 0, 1, 0, 0, 0, 0, 0, []),
  (87, .getfield 9, 3, 6, 1, 4, 60, 1, [60]),
  (90, .iload 4, 2, 4, 0, 0, 0, 0, []),
  (92, .lload_n 1, 1, 1, 0, 0, 0, 0, []),
  (93, .lastore, 1, 0, 0, 0, 0, 0, []),
  (94, .aload_n 0, 1, 0, 0, 0, 0, 0, []),
  (95, .getfield 15, 3, 6, 2, 3, 60, 2, [61]),
  (98, .iload 4, 2, 4, 0, 0, 0, 0, []),
  (100, .iload_n 3, 1, 3, 0, 0, 0, 0, []),
  (101, .iastore, 1, 0, 0, 0, 0, 0, []),
  (102, .aload_n 0, 1, 0, 0, 0, 0, 0, []),
  (103, .dup, 1, 0, 0, 0, 0, 0, []),
  (104, .getfield 38, 3, 6, 0, 0, 0, 0, [67]),
  (107, .iconst 1, 1, 0, 0, 0, 0, 1, []),
  (108, .iadd, 1, 0, 0, 0, 0, 0, []),
  (109, .putfield 38, 3, 6, 0, 0, 0, 0, [67]),
  (112, .iload 4, 2, 4, 0, 0, 0, 0, []),
  (114, .ireturn, 1, 0, 0, 0, 0, 0, [])]
abbrev kTable_drop : Nat := 68
def cTable_drop : List xE := [(0, .iload_n 1, 1, 1, 0, 0, 0, 0, []),
  (1, .ifCond .lt 17, 3, 18, 0, 0, 0, 0, []),
  (4, .iload_n 1, 1, 1, 0, 0, 0, 0, []),
  (5, .aload_n 0, 1, 0, 0, 0, 0, 0, []),
  (6, .getfield 38, 3, 6, 0, 0, 0, 0, [67]),
  (9, .if_icmp .ge 9, 3, 18, 0, 0, 0, 0, []),
  (12, .iload_n 1, 1, 1, 0, 0, 0, 0, []),
  (13, .bipush 60, 2, 0, 0, 0, 0, 60, []),
  (15, .if_icmp .lt 4, 3, 19, 0, 0, 0, 0, []),
  (18, .return_, 1, 0, 0, 0, 0, 0, []),
  (19, .aload_n 0, 1, 0, 0, 0, 0, 0, []),
  (20, .aload_n 0, 1, 0, 0, 0, 0, 0, []),
  (21, .getfield 19, 3, 6, 3, 3, 60, 3, [62]),
  (24, .iload_n 1, 1, 1, 0, 0, 0, 0, []),
  (25, .iaload, 1, 0, 0, 0, 0, 0, []),
  (26, .invokevirtual 69, 3, 69, 2, 2, 0, 6, [52]),
  (29, .iload_n 1, 1, 1, 0, 0, 0, 0, []),
  (30, .iconst 1, 1, 0, 0, 0, 0, 1, []),
  (31, .iadd, 1, 0, 0, 0, 0, 0, []),
  (32, .istore_n 2, 1, 2, 0, 0, 0, 0, []),
  (33, .iload_n 2, 1, 2, 0, 0, 0, 0, []),
  (34, .aload_n 0, 1, 0, 0, 0, 0, 0, []),
  (35, .getfield 38, 3, 6, 0, 0, 0, 0, [67]),
  (38, .if_icmp .ge 57, 3, 95, 0, 0, 0, 0, []),
  (41, .iload_n 2, 1, 2, 0, 0, 0, 0, []),
  (42, .bipush 60, 2, 0, 0, 0, 0, 60, []),
  (44, .if_icmp .ge 51, 3, 95, 0, 0, 0, 0, []),
  (47, .aload_n 0, 1, 0, 0, 0, 0, 0, []),
  (48, .getfield 9, 3, 6, 1, 4, 60, 1, [60]),
  (51, .iload_n 2, 1, 2, 0, 0, 0, 0, []),
  (52, .iconst 1, 1, 0, 0, 0, 0, 1, []),
  (53, .isub, 1, 0, 0, 0, 0, 0, []),
  (54, .aload_n 0, 1, 0, 0, 0, 0, 0, []),
  (55, .getfield 9, 3, 6, 1, 4, 60, 1, [60]),
  (58, .iload_n 2, 1, 2, 0, 0, 0, 0, []),
  (59, .laload, 1, 0, 0, 0, 0, 0, []),
  (60, .lastore, 1, 0, 0, 0, 0, 0, []),
  (61, .aload_n 0, 1, 0, 0, 0, 0, 0, []),
  (62, .getfield 15, 3, 6, 2, 3, 60, 2, [61]),
  (65, .iload_n 2, 1, 2, 0, 0, 0, 0, []),
  (66, .iconst 1, 1, 0, 0, 0, 0, 1, []),
  (67, .isub, 1, 0, 0, 0, 0, 0, []),
  (68, .aload_n 0, 1, 0, 0, 0, 0, 0, []),
  (69, .getfield 15, 3, 6, 2, 3, 60, 2, [61]),
  (72, .iload_n 2, 1, 2, 0, 0, 0, 0, []),
  (73, .iaload, 1, 0, 0, 0, 0, 0, []),
  (74, .iastore, 1, 0, 0, 0, 0, 0, []),
  (75, .aload_n 0, 1, 0, 0, 0, 0, 0, []),
  (76, .getfield 19, 3, 6, 3, 3, 60, 3, [62]),
  (79, .iload_n 2, 1, 2, 0, 0, 0, 0, []),
  (80, .iconst 1, 1, 0, 0, 0, 0, 1, []),
  (81, .isub, 1, 0, 0, 0, 0, 0, []),
  (82, .aload_n 0, 1, 0, 0, 0, 0, 0, []),
  (83, .getfield 19, 3, 6, 3, 3, 60, 3, [62]),
  (86, .iload_n 2, 1, 2, 0, 0, 0, 0, []),
  (87, .iaload, 1, 0, 0, 0, 0, 0, []),
  (88, .iastore, 1, 0, 0, 0, 0, 0, []),
  (89, .iinc 2 1, 3, 2, 0, 0, 0, 1, []),
  (92, .goto (-59), 3, 33, 0, 0, 0, 0, []),
  (95, .aload_n 0, 1, 0, 0, 0, 0, 0, []),
  (96, .dup, 1, 0, 0, 0, 0, 0, []),
  (97, .getfield 38, 3, 6, 0, 0, 0, 0, [67]),
  (100, .iconst 1, 1, 0, 0, 0, 0, 1, []),
  (101, .isub, 1, 0, 0, 0, 0, 0, []),
  (102, .putfield 38, 3, 6, 0, 0, 0, 0, [67]),
  (105, .return_, 1, 0, 0, 0, 0, 0, [])]
abbrev kTable_release : Nat := 69
def cTable_release : List xE := [(0, .aload_n 0, 1, 0, 0, 0, 0, 0, []),
  (1, .iload_n 1, 1, 1, 0, 0, 0, 0, []),
  (2, .invokevirtual 54, 3, 62, 2, 2, 1, 6, [48]),
  (5, .ifCond .eq 13, 3, 18, 0, 0, 0, 0, []),
  (8, .aload_n 0, 1, 0, 0, 0, 0, 0, []),
  (9, .getfield 25, 3, 6, 5, 3, 60, 5, [64]),
  (12, .iload_n 1, 1, 1, 0, 0, 0, 0, []),
  (13, .dup2, 1, 0, 0, 0, 0, 0, []),
  (14, .iaload, 1, 0, 0, 0, 0, 0, []),
  (15, .iconst 1, 1, 0, 0, 0, 0, 1, []),
  (16, .isub, 1, 0, 0, 0, 0, 0, []),
  (17, .iastore, 1, 0, 0, 0, 0, 0, []),
  (18, .return_, 1, 0, 0, 0, 0, 0, [])]
abbrev kTable_takeHop : Nat := 70
def cTable_takeHop : List xE := [(0, .iconst (-1), 1, 0, 0, 0, 0, (-1), []),
  (1, .istore_n 2, 1, 2, 0, 0, 0, 0, []),
  (2, .bipush 59, 2, 0, 0, 0, 0, 59, []),
  (4, .istore_n 3, 1, 3, 0, 0, 0, 0, []),
  (5, .iload_n 3, 1, 3, 0, 0, 0, 0, []),
  (6, .ifCond .lt 51, 3, 57, 0, 0, 0, 0, []),
  (9, .aload_n 0, 1, 0, 0, 0, 0, 0, []),
  (10, .getfield 25, 3, 6, 5, 3, 60, 5, [64]),
  (13, .iload_n 3, 1, 3, 0, 0, 0, 0, []),
  (14, .iaload, 1, 0, 0, 0, 0, 0, []),
  (15, .ifCond .le 25, 3, 40, 0, 0, 0, 0, []),
  (18, .aload_n 0, 1, 0, 0, 0, 0, 0, []),
  (19, .getfield 22, 3, 6, 4, 3, 60, 4, [63]),
  (22, .iload_n 3, 1, 3, 0, 0, 0, 0, []),
  (23, .iaload, 1, 0, 0, 0, 0, 0, []),
  (24, .iload_n 1, 1, 1, 0, 0, 0, 0, []),
  (25, .if_icmp .ne 15, 3, 40, 0, 0, 0, 0, []),
  (28, .aload_n 0, 1, 0, 0, 0, 0, 0, []),
  (29, .getfield 25, 3, 6, 5, 3, 60, 5, [64]),
  (32, .iload_n 3, 1, 3, 0, 0, 0, 0, []),
  (33, .dup2, 1, 0, 0, 0, 0, 0, []),
  (34, .iaload, 1, 0, 0, 0, 0, 0, []),
  (35, .iconst 1, 1, 0, 0, 0, 0, 1, []),
  (36, .iadd, 1, 0, 0, 0, 0, 0, []),
  (37, .iastore, 1, 0, 0, 0, 0, 0, []),
  (38, .iload_n 3, 1, 3, 0, 0, 0, 0, []),
  (39, .ireturn, 1, 0, 0, 0, 0, 0, []),
  (40, .aload_n 0, 1, 0, 0, 0, 0, 0, []),
  (41, .getfield 25, 3, 6, 5, 3, 60, 5, [64]),
  (44, .iload_n 3, 1, 3, 0, 0, 0, 0, []),
  (45, .iaload, 1, 0, 0, 0, 0, 0, []),
  (46, .ifCond .ne 5, 3, 51, 0, 0, 0, 0, []),
  (49, .iload_n 3, 1, 3, 0, 0, 0, 0, []),
  (50, .istore_n 2, 1, 2, 0, 0, 0, 0, []),
  (51, .iinc 3 (-1), 3, 3, 0, 0, 0, (-1), []),
  (54, .goto (-49), 3, 5, 0, 0, 0, 0, []),
  (57, .iload_n 2, 1, 2, 0, 0, 0, 0, []),
  (58, .ifCond .lt 17, 3, 75, 0, 0, 0, 0, []),
  (61, .aload_n 0, 1, 0, 0, 0, 0, 0, []),
  (62, .getfield 22, 3, 6, 4, 3, 60, 4, [63]),
  (65, .iload_n 2, 1, 2, 0, 0, 0, 0, []),
  (66, .iload_n 1, 1, 1, 0, 0, 0, 0, []),
  (67, .iastore, 1, 0, 0, 0, 0, 0, []),
  (68, .aload_n 0, 1, 0, 0, 0, 0, 0, []),
  (69, .getfield 25, 3, 6, 5, 3, 60, 5, [64]),
  (72, .iload_n 2, 1, 2, 0, 0, 0, 0, []),
  (73, .iconst 1, 1, 0, 0, 0, 0, 1, []),
  (74, .iastore, 1, 0, 0, 0, 0, 0, []),
  (75, .iload_n 2, 1, 2, 0, 0, 0, 0, []),
  (76, .ireturn, 1, 0, 0, 0, 0, 0, [])]
abbrev kTable_hasRulesOf : Nat := 71
def cTable_hasRulesOf : List xE := [(0, .aload_n 0, 1, 0, 0, 0, 0, 0, []),
  (1, .getfield 38, 3, 6, 0, 0, 0, 0, [67]),
  (4, .aload_n 1, 1, 1, 0, 0, 0, 0, []),
  (5, .getfield 79, 3, 1, 0, 0, 0, 0, [68]),
  (8, .if_icmp .eq 5, 3, 13, 0, 0, 0, 0, []),
  (11, .iconst 0, 1, 0, 0, 0, 0, 0, []),
  (12, .ireturn, 1, 1, 0, 0, 0, 0, []),
  (13, .iconst 0, 1, 0, 0, 0, 0, 0, []),
  (14, .istore_n 2, 1, 2, 0, 0, 0, 0, []),
  (15, .iload_n 2, 1, 2, 0, 0, 0, 0, []),
  (16, .aload_n 0, 1, 0, 0, 0, 0, 0, []),
  (17, .getfield 38, 3, 6, 0, 0, 0, 0, [67]),
  (20, .if_icmp .ge 63, 3, 83, 0, 0, 0, 0, []),
  (23, .iload_n 2, 1, 2, 0, 0, 0, 0, []),
  (24, .bipush 60, 2, 0, 0, 0, 0, 60, []),
  (26, .if_icmp .ge 57, 3, 83, 0, 0, 0, 0, []),
  (29, .aload_n 0, 1, 0, 0, 0, 0, 0, []),
  (30, .getfield 9, 3, 6, 1, 4, 60, 1, [60]),
  (33, .iload_n 2, 1, 2, 0, 0, 0, 0, []),
  (34, .laload, 1, 0, 0, 0, 0, 0, []),
  (35, .aload_n 1, 1, 1, 0, 0, 0, 0, []),
  (36, .getfield 84, 3, 1, 1, 4, 60, 1, [69]),
  (39, .iload_n 2, 1, 2, 0, 0, 0, 0, []),
  (40, .laload, 1, 0, 0, 0, 0, 0, []),
  (41, .lcmp, 4, 75, 1, 0, 0, 0, []),
  (45, .aload_n 0, 1, 0, 0, 0, 0, 0, []),
  (46, .getfield 15, 3, 6, 2, 3, 60, 2, [61]),
  (49, .iload_n 2, 1, 2, 0, 0, 0, 0, []),
  (50, .iaload, 1, 0, 0, 0, 0, 0, []),
  (51, .aload_n 1, 1, 1, 0, 0, 0, 0, []),
  (52, .getfield 85, 3, 1, 2, 3, 60, 2, [70]),
  (55, .iload_n 2, 1, 2, 0, 0, 0, 0, []),
  (56, .iaload, 1, 0, 0, 0, 0, 0, []),
  (57, .if_icmp .ne 18, 3, 75, 0, 0, 0, 0, []),
  (60, .aload_n 0, 1, 0, 0, 0, 0, 0, []),
  (61, .getfield 19, 3, 6, 3, 3, 60, 3, [62]),
  (64, .iload_n 2, 1, 2, 0, 0, 0, 0, []),
  (65, .iaload, 1, 0, 0, 0, 0, 0, []),
  (66, .aload_n 1, 1, 1, 0, 0, 0, 0, []),
  (67, .getfield 86, 3, 1, 3, 3, 60, 3, [71]),
  (70, .iload_n 2, 1, 2, 0, 0, 0, 0, []),
  (71, .iaload, 1, 0, 0, 0, 0, 0, []),
  (72, .if_icmp .eq 5, 3, 77, 0, 0, 0, 0, []),
  (75, .iconst 0, 1, 0, 0, 0, 0, 0, []),
  (76, .ireturn, 1, 1, 0, 0, 0, 0, []),
  (77, .iinc 2 1, 3, 2, 0, 0, 0, 1, []),
  (80, .goto (-65), 3, 15, 0, 0, 0, 0, []),
  (83, .iconst 1, 1, 0, 0, 0, 0, 1, []),
  (84, .ireturn, 1, 1, 0, 0, 0, 0, [])]
abbrev kTable_takeRules : Nat := 72
def cTable_takeRules : List xE := [(0, .iconst 0, 1, 0, 0, 0, 0, 0, []),
  (1, .istore_n 2, 1, 2, 0, 0, 0, 0, []),
  (2, .iload_n 2, 1, 2, 0, 0, 0, 0, []),
  (3, .bipush 60, 2, 0, 0, 0, 0, 60, []),
  (5, .if_icmp .ge 16, 3, 21, 0, 0, 0, 0, []),
  (8, .aload_n 0, 1, 0, 0, 0, 0, 0, []),
  (9, .getfield 25, 3, 6, 5, 3, 60, 5, [64]),
  (12, .iload_n 2, 1, 2, 0, 0, 0, 0, []),
  (13, .iconst 0, 1, 0, 0, 0, 0, 0, []),
  (14, .iastore, 1, 0, 0, 0, 0, 0, []),
  (15, .iinc 2 1, 3, 2, 0, 0, 0, 1, []),
  (18, .goto (-16), 3, 2, 0, 0, 0, 0, []),
  (21, .aload_n 0, 1, 0, 0, 0, 0, 0, []),
  (22, .aload_n 1, 1, 1, 0, 0, 0, 0, []),
  (23, .getfield 79, 3, 1, 0, 0, 0, 0, [68]),
  (26, .putfield 38, 3, 6, 0, 0, 0, 0, [67]),
  (29, .iconst 0, 1, 0, 0, 0, 0, 0, []),
  (30, .istore_n 2, 1, 2, 0, 0, 0, 0, []),
  (31, .iload_n 2, 1, 2, 0, 0, 0, 0, []),
  (32, .aload_n 0, 1, 0, 0, 0, 0, 0, []),
  (33, .getfield 38, 3, 6, 0, 0, 0, 0, [67]),
  (36, .if_icmp .ge 73, 3, 109, 0, 0, 0, 0, []),
  (39, .iload_n 2, 1, 2, 0, 0, 0, 0, []),
  (40, .bipush 60, 2, 0, 0, 0, 0, 60, []),
  (42, .if_icmp .ge 67, 3, 109, 0, 0, 0, 0, []),
  (45, .aload_n 0, 1, 0, 0, 0, 0, 0, []),
  (46, .getfield 9, 3, 6, 1, 4, 60, 1, [60]),
  (49, .iload_n 2, 1, 2, 0, 0, 0, 0, []),
  (50, .aload_n 1, 1, 1, 0, 0, 0, 0, []),
  (51, .getfield 84, 3, 1, 1, 4, 60, 1, [69]),
  (54, .iload_n 2, 1, 2, 0, 0, 0, 0, []),
  (55, .laload, 1, 0, 0, 0, 0, 0, []),
  (56, .lastore, 1, 0, 0, 0, 0, 0, []),
  (57, .aload_n 0, 1, 0, 0, 0, 0, 0, []),
  (58, .getfield 15, 3, 6, 2, 3, 60, 2, [61]),
  (61, .iload_n 2, 1, 2, 0, 0, 0, 0, []),
  (62, .aload_n 1, 1, 1, 0, 0, 0, 0, []),
  (63, .getfield 85, 3, 1, 2, 3, 60, 2, [70]),
  (66, .iload_n 2, 1, 2, 0, 0, 0, 0, []),
  (67, .iaload, 1, 0, 0, 0, 0, 0, []),
  (68, .iastore, 1, 0, 0, 0, 0, 0, []),
  (69, .aload_n 1, 1, 1, 0, 0, 0, 0, []),
  (70, .getfield 86, 3, 1, 3, 3, 60, 3, [71]),
  (73, .iload_n 2, 1, 2, 0, 0, 0, 0, []),
  (74, .iaload, 1, 0, 0, 0, 0, 0, []),
  (75, .istore_n 3, 1, 3, 0, 0, 0, 0, []),
  (76, .aload_n 0, 1, 0, 0, 0, 0, 0, []),
  (77, .getfield 19, 3, 6, 3, 3, 60, 3, [62]),
  (80, .iload_n 2, 1, 2, 0, 0, 0, 0, []),
  (81, .iload_n 3, 1, 3, 0, 0, 0, 0, []),
  (82, .iastore, 1, 0, 0, 0, 0, 0, []),
  (83, .iload_n 3, 1, 3, 0, 0, 0, 0, []),
  (84, .ifCond .lt 19, 3, 103, 0, 0, 0, 0, []),
  (87, .iload_n 3, 1, 3, 0, 0, 0, 0, []),
  (88, .bipush 60, 2, 0, 0, 0, 0, 60, []),
  (90, .if_icmp .ge 13, 3, 103, 0, 0, 0, 0, []),
  (93, .aload_n 0, 1, 0, 0, 0, 0, 0, []),
  (94, .getfield 25, 3, 6, 5, 3, 60, 5, [64]),
  (97, .iload_n 3, 1, 3, 0, 0, 0, 0, []),
  (98, .dup2, 1, 0, 0, 0, 0, 0, []),
  (99, .iaload, 1, 0, 0, 0, 0, 0, []),
  (100, .iconst 1, 1, 0, 0, 0, 0, 1, []),
  (101, .iadd, 1, 0, 0, 0, 0, 0, []),
  (102, .iastore, 1, 0, 0, 0, 0, 0, []),
  (103, .iinc 2 1, 3, 2, 0, 0, 0, 1, []),
  (106, .goto (-75), 3, 31, 0, 0, 0, 0, []),
  (109, .return_, 1, 0, 0, 0, 0, 0, [])]
abbrev kTape_hasRoom : Nat := 73
def cTape_hasRoom : List xE := [(0, .aload_n 0, 1, 0, 0, 0, 0, 0, []),
  (1, .getfield 15, 3, 7, 0, 0, 0, 0, [73]),
  (4, .bipush 20, 2, 0, 0, 0, 0, 20, []),
  (6, .iadd, 1, 0, 0, 0, 0, 0, []),
  (7, .sipush 400, 3, 0, 0, 0, 0, 400, []),
  (10, .if_icmp .gt 7, 3, 17, 0, 0, 0, 0, []),
  (13, .iconst 1, 1, 0, 0, 0, 0, 1, []),
  (14, .goto 4, 3, 18, 0, 0, 0, 0, []),
  (17, .iconst 0, 1, 0, 0, 0, 0, 0, []),
  (18, .ireturn, 1, 1, 0, 0, 0, 0, [])]
abbrev kTape_append : Nat := 74
def cTape_append : List xE := [(0, .bipush 24, 2, 0, 0, 0, 0, 24, []),
  (2, .istore_n 2, 1, 2, 0, 0, 0, 0, []),
  (3, .iload_n 2, 1, 2, 0, 0, 0, 0, []),
  (4, .ifCond .lt 45, 3, 49, 0, 0, 0, 0, []),
  (7, .aload_n 0, 1, 0, 0, 0, 0, 0, []),
  (8, .getfield 15, 3, 7, 0, 0, 0, 0, [73]),
  (11, .sipush 400, 3, 0, 0, 0, 0, 400, []),
  (14, .if_icmp .ge 35, 3, 49, 0, 0, 0, 0, []),
  (17, .aload_n 0, 1, 0, 0, 0, 0, 0, []),
  (18, .getfield 11, 3, 7, 1, 3, 400, 1, [72]),
  (21, .aload_n 0, 1, 0, 0, 0, 0, 0, []),
  (22, .getfield 15, 3, 7, 0, 0, 0, 0, [73]),
  (25, .iload_n 1, 1, 1, 0, 0, 0, 0, []),
  (26, .iload_n 2, 1, 2, 0, 0, 0, 0, []),
  (27, .ishr, 1, 0, 0, 0, 0, 0, []),
  (28, .sipush 255, 3, 0, 0, 0, 0, 255, []),
  (31, .iand, 1, 0, 0, 0, 0, 0, []),
  (32, .iastore, 1, 0, 0, 0, 0, 0, []),
  (33, .aload_n 0, 1, 0, 0, 0, 0, 0, []),
  (34, .dup, 1, 0, 0, 0, 0, 0, []),
  (35, .getfield 15, 3, 7, 0, 0, 0, 0, [73]),
  (38, .iconst 1, 1, 0, 0, 0, 0, 1, []),
  (39, .iadd, 1, 0, 0, 0, 0, 0, []),
  (40, .putfield 15, 3, 7, 0, 0, 0, 0, [73]),
  (43, .iinc 2 (-8), 3, 2, 0, 0, 0, (-8), []),
  (46, .goto (-43), 3, 3, 0, 0, 0, 0, []),
  (49, .return_, 1, 0, 0, 0, 0, 0, [])]
abbrev kTape_readInto : Nat := 75
def cTape_readInto : List xE := [(0, .aload_n 1, 1, 1, 0, 0, 0, 0, []),
  (1, .invokevirtual 19, 3, 54, 1, 2, 0, 6, [55]),
  (4, .aload_n 0, 1, 0, 0, 0, 0, 0, []),
  (5, .iconst 0, 1, 0, 0, 0, 0, 0, []),
  (6, .putfield 24, 3, 7, 2, 0, 0, 0, [74]),
  (9, .aload_n 0, 1, 0, 0, 0, 0, 0, []),
  (10, .iconst 0, 1, 0, 0, 0, 0, 0, []),
  (11, .putfield 27, 3, 7, 3, 0, 0, 0, [75]),
  (14, .iconst 1, 1, 0, 0, 0, 0, 1, []),
  (15, .istore_n 2, 1, 2, 0, 0, 0, 0, []),
  (16, .iconst 0, 1, 0, 0, 0, 0, 0, []),
  (17, .istore_n 3, 1, 3, 0, 0, 0, 0, []),
  (18, .iload_n 3, 1, 3, 0, 0, 0, 0, []),
  (19, .sipush 400, 3, 0, 0, 0, 0, 400, []),
  (22, .if_icmp .gt 55, 3, 77, 0, 0, 0, 0, []),
  (25, .iload_n 2, 1, 2, 0, 0, 0, 0, []),
  (26, .ifCond .eq 51, 3, 77, 0, 0, 0, 0, []),
  (29, .aload_n 0, 1, 0, 0, 0, 0, 0, []),
  (30, .getfield 27, 3, 7, 3, 0, 0, 0, [75]),
  (33, .ifCond .ne 44, 3, 77, 0, 0, 0, 0, []),
  (36, .aload_n 0, 1, 0, 0, 0, 0, 0, []),
  (37, .aload_n 1, 1, 1, 0, 0, 0, 0, []),
  (38, .invokevirtual 30, 3, 76, 2, 3, 0, 7, [56]),
  (41, .aload_n 0, 1, 0, 0, 0, 0, 0, []),
  (42, .getfield 27, 3, 7, 3, 0, 0, 0, [75]),
  (45, .ifCond .ne 14, 3, 59, 0, 0, 0, 0, []),
  (48, .aload_n 0, 1, 0, 0, 0, 0, 0, []),
  (49, .invokevirtual 34, 3, 82, 1, 1, 1, 7, [57]),
  (52, .ifCond .ne 7, 3, 59, 0, 0, 0, 0, []),
  (55, .iconst 1, 1, 0, 0, 0, 0, 1, []),
  (56, .goto 4, 3, 60, 0, 0, 0, 0, []),
  (59, .iconst 0, 1, 0, 0, 0, 0, 0, []),
  (60, .istore_n 2, 1, 2, 0, 0, 0, 0, []),
  (61, .iload_n 2, 1, 2, 0, 0, 0, 0, []),
  (62, .ifCond .eq 9, 3, 71, 0, 0, 0, 0, []),
  (65, .aload_n 0, 1, 0, 0, 0, 0, 0, []),
  (66, .bipush 59, 2, 0, 0, 0, 0, 59, []),
  (68, .invokevirtual 38, 3, 80, 2, 2, 0, 7, [58]),
  (71, .iinc 3 1, 3, 3, 0, 0, 0, 1, []),
  (74, .goto (-56), 3, 18, 0, 0, 0, 0, []),
  (77, .aload_n 0, 1, 0, 0, 0, 0, 0, []),
  (78, .getfield 27, 3, 7, 3, 0, 0, 0, [75]),
  (81, .ireturn, 1, 0, 0, 0, 0, 0, [])]
abbrev kTape_readLine : Nat := 76
def cTape_readLine : List xE := [(0, .aload_n 0, 1, 0, 0, 0, 0, 0, []),
  (1, .invokevirtual 42, 3, 83, 1, 1, 1, 7, [59]),
  (4, .istore_n 2, 1, 2, 0, 0, 0, 0, []),
  (5, .iload_n 2, 1, 2, 0, 0, 0, 0, []),
  (6, .invokestatic 46, 3, 85, 1, 1, 1, 0, [60]),
  (9, .ifCond .eq 11, 3, 20, 0, 0, 0, 0, []),
  (12, .aload_n 0, 1, 0, 0, 0, 0, 0, []),
  (13, .aload_n 1, 1, 1, 0, 0, 0, 0, []),
  (14, .invokevirtual 50, 3, 77, 2, 8, 0, 7, [61]),
  (17, .goto 41, 3, 58, 0, 0, 0, 0, []),
  (20, .aload_n 0, 1, 0, 0, 0, 0, 0, []),
  (21, .invokevirtual 53, 3, 81, 1, 2, 1, 7, [62]),
  (24, .ifCond .eq 25, 3, 49, 0, 0, 0, 0, []),
  (27, .aload_n 0, 1, 0, 0, 0, 0, 0, []),
  (28, .dup, 1, 0, 0, 0, 0, 0, []),
  (29, .getfield 24, 3, 7, 2, 0, 0, 0, [74]),
  (32, .ldc 56, 2, 1, 0, 0, 0, 0, []),
  (34, .invokevirtual 58, 3, 9001, 0, 0, 0, 0, []),
  (37, .iadd, 1, 0, 0, 0, 0, 0, []),
  (38, .putfield 24, 3, 7, 2, 0, 0, 0, [74]),
  (41, .aload_n 0, 1, 0, 0, 0, 0, 0, []),
  (42, .aload_n 1, 1, 1, 0, 0, 0, 0, []),
  (43, .invokevirtual 63, 3, 78, 2, 7, 0, 7, [63]),
  (46, .goto 12, 3, 58, 0, 0, 0, 0, []),
  (49, .aload_n 0, 1, 0, 0, 0, 0, 0, []),
  (50, .aload_n 0, 1, 0, 0, 0, 0, 0, []),
  (51, .getfield 24, 3, 7, 2, 0, 0, 0, [74]),
  (54, .iconst 1, 1, 0, 0, 0, 0, 1, []),
  (55, .invokevirtual 66, 3, 86, 3, 3, 0, 7, [64]),
  (58, .return_, 1, 0, 0, 0, 0, 0, [])]
abbrev kTape_readRule : Nat := 77
def cTape_readRule : List xE := [(0, .lconst 0, 1, 0, 0, 0, 0, 0, []),
  (1, .lstore_n 2, 1, 2, 0, 0, 0, 0, []),
  (2, .iconst 0, 1, 0, 0, 0, 0, 0, []),
  (3, .istore 4, 2, 4, 0, 0, 0, 0, []),
  (5, .iload 4, 2, 4, 0, 0, 0, 0, []),
  (7, .iconst 4, 1, 0, 0, 0, 0, 4, []),
  (8, .if_icmp .ge 34, 3, 42, 0, 0, 0, 0, []),
  (11, .iload 4, 2, 4, 0, 0, 0, 0, []),
  (13, .ifCond .le 9, 3, 22, 0, 0, 0, 0, []),
  (16, .aload_n 0, 1, 0, 0, 0, 0, 0, []),
  (17, .bipush 46, 2, 0, 0, 0, 0, 46, []),
  (19, .invokevirtual 38, 3, 80, 2, 2, 0, 7, [58]),
  (22, .lload_n 2, 1, 2, 0, 0, 0, 0, []),
  (23, .bipush 8, 2, 0, 0, 0, 0, 8, []),
  (25, .lshl, 1, 0, 0, 0, 0, 0, []),
  (26, .aload_n 0, 1, 0, 0, 0, 0, 0, []),
  (27, .sipush 255, 3, 0, 0, 0, 0, 255, []),
  (30, .invokevirtual 70, 3, 79, 2, 5, 1, 7, [65]),
  (33, .i2l, 1, 0, 0, 0, 0, 0, []),
  (34, .lor, 1, 0, 0, 0, 0, 0, []),
  (35, .lstore_n 2, 1, 2, 0, 0, 0, 0, []),
  (36, .iinc 4 1, 3, 4, 0, 0, 0, 1, []),
  (39, .goto (-34), 3, 5, 0, 0, 0, 0, []),
  (42, .aload_n 0, 1, 0, 0, 0, 0, 0, []),
  (43, .bipush 47, 2, 0, 0, 0, 0, 47, []),
  (45, .invokevirtual 38, 3, 80, 2, 2, 0, 7, [58]),
  (48, .aload_n 0, 1, 0, 0, 0, 0, 0, []),
  (49, .invokevirtual 42, 3, 83, 1, 1, 1, 7, [59]),
  (52, .pop, 1, 0, 0, 0, 0, 0, []),
  (53, .aload_n 0, 1, 0, 0, 0, 0, 0, []),
  (54, .getfield 24, 3, 7, 2, 0, 0, 0, [74]),
  (57, .istore 4, 2, 4, 0, 0, 0, 0, []),
  (59, .aload_n 0, 1, 0, 0, 0, 0, 0, []),
  (60, .bipush 32, 2, 0, 0, 0, 0, 32, []),
  (62, .invokevirtual 70, 3, 79, 2, 5, 1, 7, [65]),
  (65, .istore 5, 2, 5, 0, 0, 0, 0, []),
  (67, .aload_n 0, 1, 0, 0, 0, 0, 0, []),
  (68, .getfield 27, 3, 7, 3, 0, 0, 0, [75]),
  (71, .ifCond .ne 24, 3, 95, 0, 0, 0, 0, []),
  (74, .lload_n 2, 1, 2, 0, 0, 0, 0, []),
  (75, .iload 5, 2, 5, 0, 0, 0, 0, []),
  (77, .invokestatic 74, 3, 120, 1, 1, 1, 0, [66]),
  (80, .lconst 1, 1, 0, 0, 0, 0, 1, []),
  (81, .lsub, 1, 0, 0, 0, 0, 0, []),
  (82, .land, 1, 0, 0, 0, 0, 0, []),
  (83, .lconst 0, 1, 0, 0, 0, 0, 0, []),
  (84, .lcmp, 4, 95, 0, 0, 0, 0, []),
  (88, .aload_n 0, 1, 0, 0, 0, 0, 0, []),
  (89, .iload 4, 2, 4, 0, 0, 0, 0, []),
  (91, .iconst 3, 1, 0, 0, 0, 0, 3, []),
  (92, .invokevirtual 66, 3, 86, 3, 3, 0, 7, [64]),
  (95, .aload_n 0, 1, 0, 0, 0, 0, 0, []),
  (96, .bipush 61, 2, 0, 0, 0, 0, 61, []),
  (98, .invokevirtual 38, 3, 80, 2, 2, 0, 7, [58]),
  (101, .aload_n 0, 1, 0, 0, 0, 0, 0, []),
  (102, .bipush 99, 2, 0, 0, 0, 0, 99, []),
  (104, .invokevirtual 70, 3, 79, 2, 5, 1, 7, [65]),
  (107, .istore 6, 2, 6, 0, 0, 0, 0, []),
  (109, .aload_n 0, 1, 0, 0, 0, 0, 0, []),
  (110, .bipush 9, 2, 0, 0, 0, 0, 9, []),
  (112, .invokevirtual 70, 3, 79, 2, 5, 1, 7, [65]),
  (115, .istore 7, 2, 7, 0, 0, 0, 0, []),
  (117, .aload_n 0, 1, 0, 0, 0, 0, 0, []),
  (118, .getfield 27, 3, 7, 3, 0, 0, 0, [75]),
  (121, .ifCond .ne 18, 3, 139, 0, 0, 0, 0, []),
  (124, .aload_n 1, 1, 1, 0, 0, 0, 0, []),
  (125, .lload_n 2, 1, 2, 0, 0, 0, 0, []),
  (126, .iload 5, 2, 5, 0, 0, 0, 0, []),
  (128, .iload 6, 2, 6, 0, 0, 0, 0, []),
  (130, .iload 7, 2, 7, 0, 0, 0, 0, []),
  (132, .invokestatic 78, 3, 123, 2, 2, 1, 0, [67]),
  (135, .invokevirtual 82, 3, 66, 4, 6, 1, 6, [68]),
  (138, .pop, 1, 0, 0, 0, 0, 0, []),
  (139, .return_, 1, 0, 0, 0, 0, 0, [])]
abbrev kTape_readStrides : Nat := 78
def cTape_readStrides : List xE := [(0, .iconst 0, 1, 0, 0, 0, 0, 0, []),
  (1, .istore_n 2, 1, 2, 0, 0, 0, 0, []),
  (2, .iconst 0, 1, 0, 0, 0, 0, 0, []),
  (3, .istore_n 3, 1, 3, 0, 0, 0, 0, []),
  (4, .iconst 0, 1, 0, 0, 0, 0, 0, []),
  (5, .istore 4, 2, 4, 0, 0, 0, 0, []),
  (7, .iload 4, 2, 4, 0, 0, 0, 0, []),
  (9, .sipush 400, 3, 0, 0, 0, 0, 400, []),
  (12, .if_icmp .ge 98, 3, 110, 0, 0, 0, 0, []),
  (15, .aload_n 0, 1, 0, 0, 0, 0, 0, []),
  (16, .getfield 27, 3, 7, 3, 0, 0, 0, [75]),
  (19, .ifCond .ne 91, 3, 110, 0, 0, 0, 0, []),
  (22, .aload_n 0, 1, 0, 0, 0, 0, 0, []),
  (23, .invokevirtual 42, 3, 83, 1, 1, 1, 7, [59]),
  (26, .invokestatic 46, 3, 85, 1, 1, 1, 0, [60]),
  (29, .ifCond .eq 81, 3, 110, 0, 0, 0, 0, []),
  (32, .aload_n 0, 1, 0, 0, 0, 0, 0, []),
  (33, .getfield 24, 3, 7, 2, 0, 0, 0, [74]),
  (36, .istore 5, 2, 5, 0, 0, 0, 0, []),
  (38, .aload_n 0, 1, 0, 0, 0, 0, 0, []),
  (39, .bipush 6, 2, 0, 0, 0, 0, 6, []),
  (41, .invokevirtual 70, 3, 79, 2, 5, 1, 7, [65]),
  (44, .istore 6, 2, 6, 0, 0, 0, 0, []),
  (46, .aload_n 0, 1, 0, 0, 0, 0, 0, []),
  (47, .getfield 27, 3, 7, 3, 0, 0, 0, [75]),
  (50, .ifCond .ne 31, 3, 81, 0, 0, 0, 0, []),
  (53, .iload 6, 2, 6, 0, 0, 0, 0, []),
  (55, .iconst 2, 1, 0, 0, 0, 0, 2, []),
  (56, .if_icmp .lt 18, 3, 74, 0, 0, 0, 0, []),
  (59, .iload_n 2, 1, 2, 0, 0, 0, 0, []),
  (60, .iload 6, 2, 6, 0, 0, 0, 0, []),
  (62, .iadd, 1, 0, 0, 0, 0, 0, []),
  (63, .bipush 32, 2, 0, 0, 0, 0, 32, []),
  (65, .if_icmp .gt 9, 3, 74, 0, 0, 0, 0, []),
  (68, .iload_n 3, 1, 3, 0, 0, 0, 0, []),
  (69, .bipush 16, 2, 0, 0, 0, 0, 16, []),
  (71, .if_icmp .lt 10, 3, 81, 0, 0, 0, 0, []),
  (74, .aload_n 0, 1, 0, 0, 0, 0, 0, []),
  (75, .iload 5, 2, 5, 0, 0, 0, 0, []),
  (77, .iconst 2, 1, 0, 0, 0, 0, 2, []),
  (78, .invokevirtual 66, 3, 86, 3, 3, 0, 7, [64]),
  (81, .aload_n 0, 1, 0, 0, 0, 0, 0, []),
  (82, .getfield 27, 3, 7, 3, 0, 0, 0, [75]),
  (85, .ifCond .ne 19, 3, 104, 0, 0, 0, 0, []),
  (88, .aload_n 1, 1, 1, 0, 0, 0, 0, []),
  (89, .getfield 86, 3, 6, 7, 3, 16, 6, [76]),
  (92, .iload_n 3, 1, 3, 0, 0, 0, 0, []),
  (93, .iload 6, 2, 6, 0, 0, 0, 0, []),
  (95, .iastore, 1, 0, 0, 0, 0, 0, []),
  (96, .iinc 3 1, 3, 3, 0, 0, 0, 1, []),
  (99, .iload_n 2, 1, 2, 0, 0, 0, 0, []),
  (100, .iload 6, 2, 6, 0, 0, 0, 0, []),
  (102, .iadd, 1, 0, 0, 0, 0, 0, []),
  (103, .istore_n 2, 1, 2, 0, 0, 0, 0, []),
  (104, .iinc 4 1, 3, 4, 0, 0, 0, 1, []),
  (107, .goto (-100), 3, 7, 0, 0, 0, 0, []),
  (110, .iload_n 2, 1, 2, 0, 0, 0, 0, []),
  (111, .bipush 32, 2, 0, 0, 0, 0, 32, []),
  (113, .if_icmp .eq 12, 3, 125, 0, 0, 0, 0, []),
  (116, .aload_n 0, 1, 0, 0, 0, 0, 0, []),
  (117, .aload_n 0, 1, 0, 0, 0, 0, 0, []),
  (118, .getfield 24, 3, 7, 2, 0, 0, 0, [74]),
  (121, .iconst 1, 1, 0, 0, 0, 0, 1, []),
  (122, .invokevirtual 66, 3, 86, 3, 3, 0, 7, [64]),
  (125, .aload_n 1, 1, 1, 0, 0, 0, 0, []),
  (126, .iload_n 3, 1, 3, 0, 0, 0, 0, []),
  (127, .putfield 89, 3, 6, 6, 0, 0, 0, [77]),
  (130, .return_, 1, 0, 0, 0, 0, 0, [])]
abbrev kTape_readNumber : Nat := 79
def cTape_readNumber : List xE := [(0, .aload_n 0, 1, 0, 0, 0, 0, 0, []),
  (1, .invokevirtual 42, 3, 83, 1, 1, 1, 7, [59]),
  (4, .istore_n 2, 1, 2, 0, 0, 0, 0, []),
  (5, .iload_n 2, 1, 2, 0, 0, 0, 0, []),
  (6, .invokestatic 46, 3, 85, 1, 1, 1, 0, [60]),
  (9, .ifCond .ne 12, 3, 21, 0, 0, 0, 0, []),
  (12, .aload_n 0, 1, 0, 0, 0, 0, 0, []),
  (13, .aload_n 0, 1, 0, 0, 0, 0, 0, []),
  (14, .getfield 24, 3, 7, 2, 0, 0, 0, [74]),
  (17, .iconst 1, 1, 0, 0, 0, 0, 1, []),
  (18, .invokevirtual 66, 3, 86, 3, 3, 0, 7, [64]),
  (21, .aload_n 0, 1, 0, 0, 0, 0, 0, []),
  (22, .getfield 27, 3, 7, 3, 0, 0, 0, [75]),
  (25, .ifCond .eq 5, 3, 30, 0, 0, 0, 0, []),
  (28, .iconst 0, 1, 0, 0, 0, 0, 0, []),
  (29, .ireturn, 1, 0, 0, 0, 0, 0, []),
  (30, .aload_n 0, 1, 0, 0, 0, 0, 0, []),
  (31, .getfield 24, 3, 7, 2, 0, 0, 0, [74]),
  (34, .istore_n 3, 1, 3, 0, 0, 0, 0, []),
  (35, .iconst 0, 1, 0, 0, 0, 0, 0, []),
  (36, .istore 4, 2, 4, 0, 0, 0, 0, []),
  (38, .aload_n 0, 1, 0, 0, 0, 0, 0, []),
  (39, .getfield 24, 3, 7, 2, 0, 0, 0, [74]),
  (42, .aload_n 0, 1, 0, 0, 0, 0, 0, []),
  (43, .getfield 15, 3, 7, 0, 0, 0, 0, [73]),
  (46, .if_icmp .ge 55, 3, 101, 0, 0, 0, 0, []),
  (49, .aload_n 0, 1, 0, 0, 0, 0, 0, []),
  (50, .aload_n 0, 1, 0, 0, 0, 0, 0, []),
  (51, .getfield 24, 3, 7, 2, 0, 0, 0, [74]),
  (54, .invokevirtual 92, 3, 84, 2, 2, 1, 7, [69]),
  (57, .invokestatic 46, 3, 85, 1, 1, 1, 0, [60]),
  (60, .ifCond .eq 41, 3, 101, 0, 0, 0, 0, []),
  (63, .sipush 1000, 3, 0, 0, 0, 0, 1000, []),
  (66, .iload 4, 2, 4, 0, 0, 0, 0, []),
  (68, .bipush 10, 2, 0, 0, 0, 0, 10, []),
  (70, .imul, 1, 0, 0, 0, 0, 0, []),
  (71, .aload_n 0, 1, 0, 0, 0, 0, 0, []),
  (72, .aload_n 0, 1, 0, 0, 0, 0, 0, []),
  (73, .getfield 24, 3, 7, 2, 0, 0, 0, [74]),
  (76, .invokevirtual 92, 3, 84, 2, 2, 1, 7, [69]),
  (79, .iadd, 1, 0, 0, 0, 0, 0, []),
  (80, .bipush 48, 2, 0, 0, 0, 0, 48, []),
  (82, .isub, 1, 0, 0, 0, 0, 0, []),
  (83, .invokestatic 95, 3, 9004, 0, 0, 0, 0, []),
  (86, .istore 4, 2, 4, 0, 0, 0, 0, []),
  (88, .aload_n 0, 1, 0, 0, 0, 0, 0, []),
  (89, .dup, 1, 0, 0, 0, 0, 0, []),
  (90, .getfield 24, 3, 7, 2, 0, 0, 0, [74]),
  (93, .iconst 1, 1, 0, 0, 0, 0, 1, []),
  (94, .iadd, 1, 0, 0, 0, 0, 0, []),
  (95, .putfield 24, 3, 7, 2, 0, 0, 0, [74]),
  (98, .goto (-60), 3, 38, 0, 0, 0, 0, []),
  (101, .iload 4, 2, 4, 0, 0, 0, 0, []),
  (103, .iload_n 1, 1, 1, 0, 0, 0, 0, []),
  (104, .if_icmp .le 11, 3, 115, 0, 0, 0, 0, []),
  (107, .aload_n 0, 1, 0, 0, 0, 0, 0, []),
  (108, .iload_n 3, 1, 3, 0, 0, 0, 0, []),
  (109, .iconst 2, 1, 0, 0, 0, 0, 2, []),
  (110, .invokevirtual 66, 3, 86, 3, 3, 0, 7, [64]),
  (113, .iconst 0, 1, 0, 0, 0, 0, 0, []),
  (114, .ireturn, 1, 0, 0, 0, 0, 0, []),
  (115, .iload 4, 2, 4, 0, 0, 0, 0, []),
  (117, .ireturn, 1, 0, 0, 0, 0, 0, [])]
abbrev kTape_expect : Nat := 80
def cTape_expect : List xE := [(0, .aload_n 0, 1, 0, 0, 0, 0, 0, []),
  (1, .getfield 27, 3, 7, 3, 0, 0, 0, [75]),
  (4, .ifCond .eq 4, 3, 8, 0, 0, 0, 0, []),
  (7, .return_, 1, 0, 0, 0, 0, 0, []),
  (8, .aload_n 0, 1, 0, 0, 0, 0, 0, []),
  (9, .invokevirtual 42, 3, 83, 1, 1, 1, 7, [59]),
  (12, .iload_n 1, 1, 1, 0, 0, 0, 0, []),
  (13, .if_icmp .eq 15, 3, 28, 0, 0, 0, 0, []),
  (16, .aload_n 0, 1, 0, 0, 0, 0, 0, []),
  (17, .aload_n 0, 1, 0, 0, 0, 0, 0, []),
  (18, .getfield 24, 3, 7, 2, 0, 0, 0, [74]),
  (21, .iconst 1, 1, 0, 0, 0, 0, 1, []),
  (22, .invokevirtual 66, 3, 86, 3, 3, 0, 7, [64]),
  (25, .goto 13, 3, 38, 0, 0, 0, 0, []),
  (28, .aload_n 0, 1, 0, 0, 0, 0, 0, []),
  (29, .dup, 1, 0, 0, 0, 0, 0, []),
  (30, .getfield 24, 3, 7, 2, 0, 0, 0, [74]),
  (33, .iconst 1, 1, 0, 0, 0, 0, 1, []),
  (34, .iadd, 1, 0, 0, 0, 0, 0, []),
  (35, .putfield 24, 3, 7, 2, 0, 0, 0, [74]),
  (38, .return_, 1, 0, 0, 0, 0, 0, [])]
abbrev kTape_isStrides : Nat := 81
def cTape_isStrides : List xE := [(0, .iconst 0, 1, 0, 0, 0, 0, 0, []),
  (1, .istore_n 1, 1, 1, 0, 0, 0, 0, []),
  (2, .iload_n 1, 1, 1, 0, 0, 0, 0, []),
  (3, .ldc 56, 2, 1, 0, 0, 0, 0, []),
  (5, .invokevirtual 58, 3, 9001, 0, 0, 0, 0, []),
  (8, .if_icmp .ge 30, 3, 38, 0, 0, 0, 0, []),
  (11, .aload_n 0, 1, 0, 0, 0, 0, 0, []),
  (12, .aload_n 0, 1, 0, 0, 0, 0, 0, []),
  (13, .getfield 24, 3, 7, 2, 0, 0, 0, [74]),
  (16, .iload_n 1, 1, 1, 0, 0, 0, 0, []),
  (17, .iadd, 1, 0, 0, 0, 0, 0, []),
  (18, .invokevirtual 92, 3, 84, 2, 2, 1, 7, [69]),
  (21, .ldc 56, 2, 1, 0, 0, 0, 0, []),
  (23, .iload_n 1, 1, 1, 0, 0, 0, 0, []),
  (24, .invokevirtual 100, 3, 9002, 0, 0, 0, 0, []),
  (27, .if_icmp .eq 5, 3, 32, 0, 0, 0, 0, []),
  (30, .iconst 0, 1, 0, 0, 0, 0, 0, []),
  (31, .ireturn, 1, 1, 0, 0, 0, 0, []),
  (32, .iinc 1 1, 3, 1, 0, 0, 0, 1, []),
  (35, .goto (-33), 3, 2, 0, 0, 0, 0, []),
  (38, .aload_n 0, 1, 0, 0, 0, 0, 0, []),
  (39, .aload_n 0, 1, 0, 0, 0, 0, 0, []),
  (40, .getfield 24, 3, 7, 2, 0, 0, 0, [74]),
  (43, .ldc 56, 2, 1, 0, 0, 0, 0, []),
  (45, .invokevirtual 58, 3, 9001, 0, 0, 0, 0, []),
  (48, .iadd, 1, 0, 0, 0, 0, 0, []),
  (49, .invokevirtual 92, 3, 84, 2, 2, 1, 7, [69]),
  (52, .istore_n 1, 1, 1, 0, 0, 0, 0, []),
  (53, .iload_n 1, 1, 1, 0, 0, 0, 0, []),
  (54, .bipush 97, 2, 0, 0, 0, 0, 97, []),
  (56, .if_icmp .lt 9, 3, 65, 0, 0, 0, 0, []),
  (59, .iload_n 1, 1, 1, 0, 0, 0, 0, []),
  (60, .bipush 122, 2, 0, 0, 0, 0, 122, []),
  (62, .if_icmp .le 7, 3, 69, 0, 0, 0, 0, []),
  (65, .iconst 1, 1, 0, 0, 0, 0, 1, []),
  (66, .goto 4, 3, 70, 0, 0, 0, 0, []),
  (69, .iconst 0, 1, 0, 0, 0, 0, 0, []),
  (70, .ireturn, 1, 1, 0, 0, 0, 0, [])]
abbrev kTape_atEnd : Nat := 82
def cTape_atEnd : List xE := [(0, .aload_n 0, 1, 0, 0, 0, 0, 0, []),
  (1, .invokevirtual 42, 3, 83, 1, 1, 1, 7, [59]),
  (4, .iconst (-1), 1, 0, 0, 0, 0, (-1), []),
  (5, .if_icmp .ne 7, 3, 12, 0, 0, 0, 0, []),
  (8, .iconst 1, 1, 0, 0, 0, 0, 1, []),
  (9, .goto 4, 3, 13, 0, 0, 0, 0, []),
  (12, .iconst 0, 1, 0, 0, 0, 0, 0, []),
  (13, .ireturn, 1, 1, 0, 0, 0, 0, [])]
abbrev kTape_nextSign : Nat := 83
def cTape_nextSign : List xE := [(0, .aload_n 0, 1, 0, 0, 0, 0, 0, []),
  (1, .getfield 24, 3, 7, 2, 0, 0, 0, [74]),
  (4, .aload_n 0, 1, 0, 0, 0, 0, 0, []),
  (5, .getfield 15, 3, 7, 0, 0, 0, 0, [73]),
  (8, .if_icmp .ge 29, 3, 37, 0, 0, 0, 0, []),
  (11, .aload_n 0, 1, 0, 0, 0, 0, 0, []),
  (12, .aload_n 0, 1, 0, 0, 0, 0, 0, []),
  (13, .getfield 24, 3, 7, 2, 0, 0, 0, [74]),
  (16, .invokevirtual 92, 3, 84, 2, 2, 1, 7, [69]),
  (19, .bipush 32, 2, 0, 0, 0, 0, 32, []),
  (21, .if_icmp .ne 16, 3, 37, 0, 0, 0, 0, []),
  (24, .aload_n 0, 1, 0, 0, 0, 0, 0, []),
  (25, .dup, 1, 0, 0, 0, 0, 0, []),
  (26, .getfield 24, 3, 7, 2, 0, 0, 0, [74]),
  (29, .iconst 1, 1, 0, 0, 0, 0, 1, []),
  (30, .iadd, 1, 0, 0, 0, 0, 0, []),
  (31, .putfield 24, 3, 7, 2, 0, 0, 0, [74]),
  (34, .goto (-34), 3, 0, 0, 0, 0, 0, []),
  (37, .aload_n 0, 1, 0, 0, 0, 0, 0, []),
  (38, .aload_n 0, 1, 0, 0, 0, 0, 0, []),
  (39, .getfield 24, 3, 7, 2, 0, 0, 0, [74]),
  (42, .invokevirtual 92, 3, 84, 2, 2, 1, 7, [69]),
  (45, .ireturn, 1, 0, 0, 0, 0, 0, [])]
abbrev kTape_signAt : Nat := 84
def cTape_signAt : List xE := [(0, .iload_n 1, 1, 1, 0, 0, 0, 0, []),
  (1, .ifCond .lt 27, 3, 28, 0, 0, 0, 0, []),
  (4, .iload_n 1, 1, 1, 0, 0, 0, 0, []),
  (5, .aload_n 0, 1, 0, 0, 0, 0, 0, []),
  (6, .getfield 15, 3, 7, 0, 0, 0, 0, [73]),
  (9, .if_icmp .ge 19, 3, 28, 0, 0, 0, 0, []),
  (12, .iload_n 1, 1, 1, 0, 0, 0, 0, []),
  (13, .sipush 400, 3, 0, 0, 0, 0, 400, []),
  (16, .if_icmp .ge 12, 3, 28, 0, 0, 0, 0, []),
  (19, .aload_n 0, 1, 0, 0, 0, 0, 0, []),
  (20, .getfield 11, 3, 7, 1, 3, 400, 1, [72]),
  (23, .iload_n 1, 1, 1, 0, 0, 0, 0, []),
  (24, .iaload, 1, 0, 0, 0, 0, 0, []),
  (25, .goto 4, 3, 29, 0, 0, 0, 0, []),
  (28, .iconst (-1), 1, 0, 0, 0, 0, (-1), []),
  (29, .ireturn, 1, 0, 0, 0, 0, 0, [])]
abbrev kTape_isDigit : Nat := 85
def cTape_isDigit : List xE := [(0, .iload_n 0, 1, 0, 0, 0, 0, 0, []),
  (1, .bipush 48, 2, 0, 0, 0, 0, 48, []),
  (3, .if_icmp .lt 13, 3, 16, 0, 0, 0, 0, []),
  (6, .iload_n 0, 1, 0, 0, 0, 0, 0, []),
  (7, .bipush 57, 2, 0, 0, 0, 0, 57, []),
  (9, .if_icmp .gt 7, 3, 16, 0, 0, 0, 0, []),
  (12, .iconst 1, 1, 0, 0, 0, 0, 1, []),
  (13, .goto 4, 3, 17, 0, 0, 0, 0, []),
  (16, .iconst 0, 1, 0, 0, 0, 0, 0, []),
  (17, .ireturn, 1, 1, 0, 0, 0, 0, [])]
abbrev kTape_fail : Nat := 86
def cTape_fail : List xE := [(0, .aload_n 0, 1, 0, 0, 0, 0, 0, []),
  (1, .getfield 27, 3, 7, 3, 0, 0, 0, [75]),
  (4, .ifCond .ne 13, 3, 17, 0, 0, 0, 0, []),
  (7, .aload_n 0, 1, 0, 0, 0, 0, 0, []),
  (8, .bipush 8, 2, 0, 0, 0, 0, 8, []),
  (10, .iload_n 1, 1, 1, 0, 0, 0, 0, []),
  (11, .imul, 1, 0, 0, 0, 0, 0, []),
  (12, .iload_n 2, 1, 2, 0, 0, 0, 0, []),
  (13, .iadd, 1, 0, 0, 0, 0, 0, []),
  (14, .putfield 27, 3, 7, 3, 0, 0, 0, [75]),
  (17, .return_, 1, 0, 0, 0, 0, 0, [])]
abbrev kRS_feed : Nat := 87
def cRS_feed : List xE := [(0, .aload_n 0, 1, 0, 0, 0, 0, 0, []),
  (1, .getfield 12, 3, 8, 0, 2, 7, 1, [78]),
  (4, .invokevirtual 81, 3, 73, 1, 1, 1, 7, [70]),
  (7, .ifCond .ne 5, 3, 12, 0, 0, 0, 0, []),
  (10, .iconst (-1), 1, 0, 0, 0, 0, (-1), []),
  (11, .ireturn, 1, 0, 0, 0, 0, 0, []),
  (12, .aload_n 0, 1, 0, 0, 0, 0, 0, []),
  (13, .getfield 12, 3, 8, 0, 2, 7, 1, [78]),
  (16, .iload_n 1, 1, 1, 0, 0, 0, 0, []),
  (17, .invokevirtual 85, 3, 74, 2, 3, 0, 7, [71]),
  (20, .aload_n 0, 1, 0, 0, 0, 0, 0, []),
  (21, .getfield 12, 3, 8, 0, 2, 7, 1, [78]),
  (24, .iload_n 2, 1, 2, 0, 0, 0, 0, []),
  (25, .invokevirtual 85, 3, 74, 2, 3, 0, 7, [71]),
  (28, .aload_n 0, 1, 0, 0, 0, 0, 0, []),
  (29, .getfield 12, 3, 8, 0, 2, 7, 1, [78]),
  (32, .iload_n 3, 1, 3, 0, 0, 0, 0, []),
  (33, .invokevirtual 85, 3, 74, 2, 3, 0, 7, [71]),
  (36, .aload_n 0, 1, 0, 0, 0, 0, 0, []),
  (37, .getfield 12, 3, 8, 0, 2, 7, 1, [78]),
  (40, .iload 4, 2, 4, 0, 0, 0, 0, []),
  (42, .invokevirtual 85, 3, 74, 2, 3, 0, 7, [71]),
  (45, .aload_n 0, 1, 0, 0, 0, 0, 0, []),
  (46, .getfield 12, 3, 8, 0, 2, 7, 1, [78]),
  (49, .iload 5, 2, 5, 0, 0, 0, 0, []),
  (51, .invokevirtual 85, 3, 74, 2, 3, 0, 7, [71]),
  (54, .aload_n 0, 1, 0, 0, 0, 0, 0, []),
  (55, .getfield 12, 3, 8, 0, 2, 7, 1, [78]),
  (58, .getfield 89, 3, 7, 0, 0, 0, 0, [91]),
  (61, .ireturn, 1, 0, 0, 0, 0, 0, [])]
abbrev kRS_end : Nat := 88
def cRS_end : List xE := [(0, .iload_n 1, 1, 1, 0, 0, 0, 0, []),
  (1, .ifCond .lt 14, 3, 15, 0, 0, 0, 0, []),
  (4, .iload_n 1, 1, 1, 0, 0, 0, 0, []),
  (5, .aload_n 0, 1, 0, 0, 0, 0, 0, []),
  (6, .getfield 12, 3, 8, 0, 2, 7, 1, [78]),
  (9, .getfield 89, 3, 7, 0, 0, 0, 0, [91]),
  (12, .if_icmp .le 5, 3, 17, 0, 0, 0, 0, []),
  (15, .iconst (-1), 1, 0, 0, 0, 0, (-1), []),
  (16, .ireturn, 1, 0, 0, 0, 0, 0, []),
  (17, .aload_n 0, 1, 0, 0, 0, 0, 0, []),
  (18, .getfield 12, 3, 8, 0, 2, 7, 1, [78]),
  (21, .iload_n 1, 1, 1, 0, 0, 0, 0, []),
  (22, .putfield 89, 3, 7, 0, 0, 0, 0, [91]),
  (25, .iload_n 1, 1, 1, 0, 0, 0, 0, []),
  (26, .ireturn, 1, 0, 0, 0, 0, 0, [])]
abbrev kRS_tell : Nat := 89
def cRS_tell : List xE := [(0, .aload_n 0, 1, 0, 0, 0, 0, 0, []),
  (1, .getfield 12, 3, 8, 0, 2, 7, 1, [78]),
  (4, .aload_n 0, 1, 0, 0, 0, 0, 0, []),
  (5, .getfield 23, 3, 8, 2, 2, 6, 10, [80]),
  (8, .invokevirtual 93, 3, 75, 2, 4, 1, 7, [72]),
  (11, .istore_n 1, 1, 1, 0, 0, 0, 0, []),
  (12, .aload_n 0, 1, 0, 0, 0, 0, 0, []),
  (13, .getfield 12, 3, 8, 0, 2, 7, 1, [78]),
  (16, .iconst 0, 1, 0, 0, 0, 0, 0, []),
  (17, .putfield 89, 3, 7, 0, 0, 0, 0, [91]),
  (20, .iload_n 1, 1, 1, 0, 0, 0, 0, []),
  (21, .ifCond .eq 8, 3, 29, 0, 0, 0, 0, []),
  (24, .bipush (-2), 2, 0, 0, 0, 0, (-2), []),
  (26, .iload_n 1, 1, 1, 0, 0, 0, 0, []),
  (27, .isub, 1, 0, 0, 0, 0, 0, []),
  (28, .ireturn, 1, 0, 0, 0, 0, 0, []),
  (29, .aload_n 0, 1, 0, 0, 0, 0, 0, []),
  (30, .getfield 19, 3, 8, 1, 2, 6, 3, [79]),
  (33, .aload_n 0, 1, 0, 0, 0, 0, 0, []),
  (34, .getfield 23, 3, 8, 2, 2, 6, 10, [80]),
  (37, .invokevirtual 97, 3, 55, 2, 3, 0, 6, [73]),
  (40, .aload_n 0, 1, 0, 0, 0, 0, 0, []),
  (41, .invokevirtual 101, 3, 129, 1, 1, 0, 8, [74]),
  (44, .aload_n 0, 1, 0, 0, 0, 0, 0, []),
  (45, .getfield 19, 3, 8, 1, 2, 6, 3, [79]),
  (48, .getfield 104, 3, 6, 0, 0, 0, 0, [92]),
  (51, .ireturn, 1, 0, 0, 0, 0, 0, [])]
abbrev kRS_add : Nat := 90
def cRS_add : List xE := [(0, .iload_n 1, 1, 1, 0, 0, 0, 0, []),
  (1, .iload_n 2, 1, 2, 0, 0, 0, 0, []),
  (2, .invokestatic 107, 3, 121, 2, 2, 1, 0, [75]),
  (5, .ifCond .eq 12, 3, 17, 0, 0, 0, 0, []),
  (8, .iload_n 3, 1, 3, 0, 0, 0, 0, []),
  (9, .iload 4, 2, 4, 0, 0, 0, 0, []),
  (11, .invokestatic 111, 3, 122, 2, 2, 1, 0, [76]),
  (14, .ifCond .ne 5, 3, 19, 0, 0, 0, 0, []),
  (17, .iconst (-1), 1, 0, 0, 0, 0, (-1), []),
  (18, .ireturn, 1, 0, 0, 0, 0, 0, []),
  (19, .iload_n 3, 1, 3, 0, 0, 0, 0, []),
  (20, .iload 4, 2, 4, 0, 0, 0, 0, []),
  (22, .invokestatic 114, 3, 123, 2, 2, 1, 0, [77]),
  (25, .istore 5, 2, 5, 0, 0, 0, 0, []),
  (27, .aload_n 0, 1, 0, 0, 0, 0, 0, []),
  (28, .iload_n 1, 1, 1, 0, 0, 0, 0, []),
  (29, .iload_n 2, 1, 2, 0, 0, 0, 0, []),
  (30, .iload 5, 2, 5, 0, 0, 0, 0, []),
  (32, .invokevirtual 118, 3, 124, 4, 5, 1, 8, [78]),
  (35, .istore 6, 2, 6, 0, 0, 0, 0, []),
  (37, .iload 6, 2, 6, 0, 0, 0, 0, []),
  (39, .ifCond .eq 6, 3, 45, 0, 0, 0, 0, []),
  (42, .iload 6, 2, 6, 0, 0, 0, 0, []),
  (44, .ireturn, 1, 0, 0, 0, 0, 0, []),
  (45, .aload_n 0, 1, 0, 0, 0, 0, 0, []),
  (46, .invokevirtual 122, 3, 127, 1, 1, 0, 8, [79]),
  (49, .aload_n 0, 1, 0, 0, 0, 0, 0, []),
  (50, .getfield 19, 3, 8, 1, 2, 6, 3, [79]),
  (53, .iload_n 1, 1, 1, 0, 0, 0, 0, []),
  (54, .invokestatic 125, 3, 119, 1, 1, 1, 0, [80]),
  (57, .iload_n 2, 1, 2, 0, 0, 0, 0, []),
  (58, .iload 5, 2, 5, 0, 0, 0, 0, []),
  (60, .invokevirtual 129, 3, 66, 4, 6, 1, 6, [81]),
  (63, .ireturn, 1, 0, 0, 0, 0, 0, [])]
abbrev kRS_withdraw : Nat := 91
def cRS_withdraw : List xE := [(0, .iload_n 1, 1, 1, 0, 0, 0, 0, []),
  (1, .iload_n 2, 1, 2, 0, 0, 0, 0, []),
  (2, .invokestatic 107, 3, 121, 2, 2, 1, 0, [75]),
  (5, .ifCond .ne 5, 3, 10, 0, 0, 0, 0, []),
  (8, .iconst (-1), 1, 0, 0, 0, 0, (-1), []),
  (9, .ireturn, 1, 0, 0, 0, 0, 0, []),
  (10, .aload_n 0, 1, 0, 0, 0, 0, 0, []),
  (11, .getfield 19, 3, 8, 1, 2, 6, 3, [79]),
  (14, .iload_n 1, 1, 1, 0, 0, 0, 0, []),
  (15, .invokestatic 125, 3, 119, 1, 1, 1, 0, [80]),
  (18, .iload_n 2, 1, 2, 0, 0, 0, 0, []),
  (19, .invokevirtual 133, 3, 61, 3, 5, 1, 6, [82]),
  (22, .istore_n 3, 1, 3, 0, 0, 0, 0, []),
  (23, .iload_n 3, 1, 3, 0, 0, 0, 0, []),
  (24, .ifCond .ge 5, 3, 29, 0, 0, 0, 0, []),
  (27, .iconst (-1), 1, 0, 0, 0, 0, (-1), []),
  (28, .ireturn, 1, 0, 0, 0, 0, 0, []),
  (29, .aload_n 0, 1, 0, 0, 0, 0, 0, []),
  (30, .invokevirtual 122, 3, 127, 1, 1, 0, 8, [79]),
  (33, .aload_n 0, 1, 0, 0, 0, 0, 0, []),
  (34, .getfield 19, 3, 8, 1, 2, 6, 3, [79]),
  (37, .iload_n 3, 1, 3, 0, 0, 0, 0, []),
  (38, .invokevirtual 137, 3, 68, 2, 3, 0, 6, [83]),
  (41, .aload_n 0, 1, 0, 0, 0, 0, 0, []),
  (42, .getfield 19, 3, 8, 1, 2, 6, 3, [79]),
  (45, .getfield 104, 3, 6, 0, 0, 0, 0, [92]),
  (48, .ireturn, 1, 0, 0, 0, 0, 0, [])]
abbrev kRS_range : Nat := 92
def cRS_range : List xE := [(0, .iload_n 1, 1, 1, 0, 0, 0, 0, []),
  (1, .invokestatic 125, 3, 119, 1, 1, 1, 0, [80]),
  (4, .iload_n 2, 1, 2, 0, 0, 0, 0, []),
  (5, .invokestatic 125, 3, 119, 1, 1, 1, 0, [80]),
  (8, .lcmp, 4, 21, 4, 0, 0, 0, []),
  (12, .iload_n 3, 1, 3, 0, 0, 0, 0, []),
  (13, .iload 4, 2, 4, 0, 0, 0, 0, []),
  (15, .invokestatic 111, 3, 122, 2, 2, 1, 0, [76]),
  (18, .ifCond .ne 5, 3, 23, 0, 0, 0, 0, []),
  (21, .iconst (-1), 1, 0, 0, 0, 0, (-1), []),
  (22, .ireturn, 1, 0, 0, 0, 0, 0, []),
  (23, .iload_n 3, 1, 3, 0, 0, 0, 0, []),
  (24, .iload 4, 2, 4, 0, 0, 0, 0, []),
  (26, .invokestatic 114, 3, 123, 2, 2, 1, 0, [77]),
  (29, .istore 5, 2, 5, 0, 0, 0, 0, []),
  (31, .aload_n 0, 1, 0, 0, 0, 0, 0, []),
  (32, .getfield 77, 3, 8, 16, 2, 4, 111, [90]),
  (35, .iload_n 1, 1, 1, 0, 0, 0, 0, []),
  (36, .invokestatic 125, 3, 119, 1, 1, 1, 0, [80]),
  (39, .iload_n 2, 1, 2, 0, 0, 0, 0, []),
  (40, .invokestatic 125, 3, 119, 1, 1, 1, 0, [80]),
  (43, .invokevirtual 140, 3, 42, 3, 8, 0, 4, [84]),
  (46, .iconst 0, 1, 0, 0, 0, 0, 0, []),
  (47, .istore 6, 2, 6, 0, 0, 0, 0, []),
  (49, .iconst 0, 1, 0, 0, 0, 0, 0, []),
  (50, .istore 7, 2, 7, 0, 0, 0, 0, []),
  (52, .iconst 0, 1, 0, 0, 0, 0, 0, []),
  (53, .istore 8, 2, 8, 0, 0, 0, 0, []),
  (55, .iload 8, 2, 8, 0, 0, 0, 0, []),
  (57, .aload_n 0, 1, 0, 0, 0, 0, 0, []),
  (58, .getfield 77, 3, 8, 16, 2, 4, 111, [90]),
  (61, .getfield 144, 3, 4, 0, 0, 0, 0, [93]),
  (64, .if_icmp .ge 82, 3, 146, 0, 0, 0, 0, []),
  (67, .aload_n 0, 1, 0, 0, 0, 0, 0, []),
  (68, .getfield 19, 3, 8, 1, 2, 6, 3, [79]),
  (71, .aload_n 0, 1, 0, 0, 0, 0, 0, []),
  (72, .getfield 77, 3, 8, 16, 2, 4, 111, [90]),
  (75, .getfield 145, 3, 4, 1, 4, 64, 1, [94]),
  (78, .iload 8, 2, 8, 0, 0, 0, 0, []),
  (80, .laload, 1, 0, 0, 0, 0, 0, []),
  (81, .aload_n 0, 1, 0, 0, 0, 0, 0, []),
  (82, .getfield 77, 3, 8, 16, 2, 4, 111, [90]),
  (85, .getfield 149, 3, 4, 2, 3, 64, 2, [95]),
  (88, .iload 8, 2, 8, 0, 0, 0, 0, []),
  (90, .iaload, 1, 0, 0, 0, 0, 0, []),
  (91, .invokevirtual 133, 3, 61, 3, 5, 1, 6, [82]),
  (94, .istore 9, 2, 9, 0, 0, 0, 0, []),
  (96, .iload 7, 2, 7, 0, 0, 0, 0, []),
  (98, .iload 9, 2, 9, 0, 0, 0, 0, []),
  (100, .ifCond .ge 7, 3, 107, 0, 0, 0, 0, []),
  (103, .iconst 1, 1, 0, 0, 0, 0, 1, []),
  (104, .goto 4, 3, 108, 0, 0, 0, 0, []),
  (107, .iconst 0, 1, 0, 0, 0, 0, 0, []),
  (108, .iadd, 1, 0, 0, 0, 0, 0, []),
  (109, .istore 7, 2, 7, 0, 0, 0, 0, []),
  (111, .iload 6, 2, 6, 0, 0, 0, 0, []),
  (113, .iload 9, 2, 9, 0, 0, 0, 0, []),
  (115, .ifCond .lt 21, 3, 136, 0, 0, 0, 0, []),
  (118, .aload_n 0, 1, 0, 0, 0, 0, 0, []),
  (119, .getfield 19, 3, 8, 1, 2, 6, 3, [79]),
  (122, .iload 9, 2, 9, 0, 0, 0, 0, []),
  (124, .invokevirtual 153, 3, 64, 2, 3, 1, 6, [85]),
  (127, .iload 5, 2, 5, 0, 0, 0, 0, []),
  (129, .if_icmp .eq 7, 3, 136, 0, 0, 0, 0, []),
  (132, .iconst 1, 1, 0, 0, 0, 0, 1, []),
  (133, .goto 4, 3, 137, 0, 0, 0, 0, []),
  (136, .iconst 0, 1, 0, 0, 0, 0, 0, []),
  (137, .iadd, 1, 0, 0, 0, 0, 0, []),
  (138, .istore 6, 2, 6, 0, 0, 0, 0, []),
  (140, .iinc 8 1, 3, 8, 0, 0, 0, 1, []),
  (143, .goto (-88), 3, 55, 0, 0, 0, 0, []),
  (146, .iload 7, 2, 7, 0, 0, 0, 0, []),
  (148, .iload 6, 2, 6, 0, 0, 0, 0, []),
  (150, .iadd, 1, 0, 0, 0, 0, 0, []),
  (151, .ifCond .ne 6, 3, 157, 0, 0, 0, 0, []),
  (154, .bipush (-2), 2, 0, 0, 0, 0, (-2), []),
  (156, .ireturn, 1, 0, 0, 0, 0, 0, []),
  (157, .aload_n 0, 1, 0, 0, 0, 0, 0, []),
  (158, .getfield 19, 3, 8, 1, 2, 6, 3, [79]),
  (161, .getfield 104, 3, 6, 0, 0, 0, 0, [92]),
  (164, .iload 7, 2, 7, 0, 0, 0, 0, []),
  (166, .iadd, 1, 0, 0, 0, 0, 0, []),
  (167, .bipush 60, 2, 0, 0, 0, 0, 60, []),
  (169, .if_icmp .le 6, 3, 175, 0, 0, 0, 0, []),
  (172, .bipush (-3), 2, 0, 0, 0, 0, (-3), []),
  (174, .ireturn, 1, 0, 0, 0, 0, 0, []),
  (175, .aload_n 0, 1, 0, 0, 0, 0, 0, []),
  (176, .invokevirtual 122, 3, 127, 1, 1, 0, 8, [79]),
  (179, .iconst 0, 1, 0, 0, 0, 0, 0, []),
  (180, .istore 8, 2, 8, 0, 0, 0, 0, []),
  (182, .iload 8, 2, 8, 0, 0, 0, 0, []),
  (184, .aload_n 0, 1, 0, 0, 0, 0, 0, []),
  (185, .getfield 77, 3, 8, 16, 2, 4, 111, [90]),
  (188, .getfield 144, 3, 4, 0, 0, 0, 0, [93]),
  (191, .if_icmp .ge 39, 3, 230, 0, 0, 0, 0, []),
  (194, .aload_n 0, 1, 0, 0, 0, 0, 0, []),
  (195, .getfield 19, 3, 8, 1, 2, 6, 3, [79]),
  (198, .aload_n 0, 1, 0, 0, 0, 0, 0, []),
  (199, .getfield 77, 3, 8, 16, 2, 4, 111, [90]),
  (202, .getfield 145, 3, 4, 1, 4, 64, 1, [94]),
  (205, .iload 8, 2, 8, 0, 0, 0, 0, []),
  (207, .laload, 1, 0, 0, 0, 0, 0, []),
  (208, .aload_n 0, 1, 0, 0, 0, 0, 0, []),
  (209, .getfield 77, 3, 8, 16, 2, 4, 111, [90]),
  (212, .getfield 149, 3, 4, 2, 3, 64, 2, [95]),
  (215, .iload 8, 2, 8, 0, 0, 0, 0, []),
  (217, .iaload, 1, 0, 0, 0, 0, 0, []),
  (218, .iload 5, 2, 5, 0, 0, 0, 0, []),
  (220, .invokevirtual 129, 3, 66, 4, 6, 1, 6, [81]),
  (223, .pop, 1, 0, 0, 0, 0, 0, []),
  (224, .iinc 8 1, 3, 8, 0, 0, 0, 1, []),
  (227, .goto (-45), 3, 182, 0, 0, 0, 0, []),
  (230, .aload_n 0, 1, 0, 0, 0, 0, 0, []),
  (231, .getfield 77, 3, 8, 16, 2, 4, 111, [90]),
  (234, .getfield 144, 3, 4, 0, 0, 0, 0, [93]),
  (237, .ireturn, 1, 0, 0, 0, 0, 0, [])]
abbrev kRS_strides : Nat := 93
def cRS_strides : List xE := [(0, .aload_n 0, 1, 0, 0, 0, 0, 0, []),
  (1, .getfield 23, 3, 8, 2, 2, 6, 10, [80]),
  (4, .lload_n 1, 1, 1, 0, 0, 0, 0, []),
  (5, .invokevirtual 157, 3, 58, 2, 8, 1, 6, [86]),
  (8, .ifCond .ne 5, 3, 13, 0, 0, 0, 0, []),
  (11, .iconst (-1), 1, 0, 0, 0, 0, (-1), []),
  (12, .ireturn, 1, 0, 0, 0, 0, 0, []),
  (13, .aload_n 0, 1, 0, 0, 0, 0, 0, []),
  (14, .getfield 19, 3, 8, 1, 2, 6, 3, [79]),
  (17, .aload_n 0, 1, 0, 0, 0, 0, 0, []),
  (18, .getfield 23, 3, 8, 2, 2, 6, 10, [80]),
  (21, .invokevirtual 161, 3, 57, 2, 3, 1, 6, [87]),
  (24, .ifCond .eq 6, 3, 30, 0, 0, 0, 0, []),
  (27, .bipush (-2), 2, 0, 0, 0, 0, (-2), []),
  (29, .ireturn, 1, 0, 0, 0, 0, 0, []),
  (30, .aload_n 0, 1, 0, 0, 0, 0, 0, []),
  (31, .invokevirtual 122, 3, 127, 1, 1, 0, 8, [79]),
  (34, .aload_n 0, 1, 0, 0, 0, 0, 0, []),
  (35, .getfield 19, 3, 8, 1, 2, 6, 3, [79]),
  (38, .aload_n 0, 1, 0, 0, 0, 0, 0, []),
  (39, .getfield 23, 3, 8, 2, 2, 6, 10, [80]),
  (42, .invokevirtual 165, 3, 56, 2, 3, 0, 6, [88]),
  (45, .aload_n 0, 1, 0, 0, 0, 0, 0, []),
  (46, .getfield 19, 3, 8, 1, 2, 6, 3, [79]),
  (49, .getfield 168, 3, 6, 6, 0, 0, 0, [96]),
  (52, .ireturn, 1, 0, 0, 0, 0, 0, [])]
abbrev kRS_gather : Nat := 94
def cRS_gather : List xE := [(0, .aload_n 0, 1, 0, 0, 0, 0, 0, []),
  (1, .invokevirtual 171, 3, 135, 1, 1, 0, 8, [89]),
  (4, .aload_n 0, 1, 0, 0, 0, 0, 0, []),
  (5, .getfield 63, 3, 8, 14, 2, 1, 69, [88]),
  (8, .invokevirtual 174, 3, 9, 1, 2, 1, 1, [90]),
  (11, .ifCond .eq 6, 3, 17, 0, 0, 0, 0, []),
  (14, .bipush (-2), 2, 0, 0, 0, 0, (-2), []),
  (16, .ireturn, 1, 0, 0, 0, 0, 0, []),
  (17, .aload_n 0, 1, 0, 0, 0, 0, 0, []),
  (18, .getfield 19, 3, 8, 1, 2, 6, 3, [79]),
  (21, .aload_n 0, 1, 0, 0, 0, 0, 0, []),
  (22, .getfield 63, 3, 8, 14, 2, 1, 69, [88]),
  (25, .invokevirtual 177, 3, 71, 2, 3, 1, 6, [91]),
  (28, .ifCond .eq 6, 3, 34, 0, 0, 0, 0, []),
  (31, .bipush (-3), 2, 0, 0, 0, 0, (-3), []),
  (33, .ireturn, 1, 0, 0, 0, 0, 0, []),
  (34, .aload_n 0, 1, 0, 0, 0, 0, 0, []),
  (35, .invokevirtual 122, 3, 127, 1, 1, 0, 8, [79]),
  (38, .aload_n 0, 1, 0, 0, 0, 0, 0, []),
  (39, .getfield 19, 3, 8, 1, 2, 6, 3, [79]),
  (42, .aload_n 0, 1, 0, 0, 0, 0, 0, []),
  (43, .getfield 63, 3, 8, 14, 2, 1, 69, [88]),
  (46, .invokevirtual 181, 3, 72, 2, 4, 0, 6, [92]),
  (49, .aload_n 0, 1, 0, 0, 0, 0, 0, []),
  (50, .getfield 19, 3, 8, 1, 2, 6, 3, [79]),
  (53, .getfield 104, 3, 6, 0, 0, 0, 0, [92]),
  (56, .ireturn, 1, 0, 0, 0, 0, 0, [])]
abbrev kRS_undo : Nat := 95
def cRS_undo : List xE := [(0, .aload_n 0, 1, 0, 0, 0, 0, 0, []),
  (1, .getfield 185, 3, 8, 5, 0, 0, 0, [97]),
  (4, .ifCond .le 12, 3, 16, 0, 0, 0, 0, []),
  (7, .aload_n 0, 1, 0, 0, 0, 0, 0, []),
  (8, .getfield 185, 3, 8, 5, 0, 0, 0, [97]),
  (11, .bipush 10, 2, 0, 0, 0, 0, 10, []),
  (13, .if_icmp .le 5, 3, 18, 0, 0, 0, 0, []),
  (16, .iconst (-1), 1, 0, 0, 0, 0, (-1), []),
  (17, .ireturn, 1, 0, 0, 0, 0, 0, []),
  (18, .aload_n 0, 1, 0, 0, 0, 0, 0, []),
  (19, .dup, 1, 0, 0, 0, 0, 0, []),
  (20, .getfield 185, 3, 8, 5, 0, 0, 0, [97]),
  (23, .iconst 1, 1, 0, 0, 0, 0, 1, []),
  (24, .isub, 1, 0, 0, 0, 0, 0, []),
  (25, .putfield 185, 3, 8, 5, 0, 0, 0, [97]),
  (28, .aload_n 0, 1, 0, 0, 0, 0, 0, []),
  (29, .getfield 19, 3, 8, 1, 2, 6, 3, [79]),
  (32, .aload_n 0, 1, 0, 0, 0, 0, 0, []),
  (33, .getfield 26, 3, 8, 3, 6, 10, 17, [81]),
  (36, .aload_n 0, 1, 0, 0, 0, 0, 0, []),
  (37, .getfield 185, 3, 8, 5, 0, 0, 0, [97]),
  (40, .aaload, 1, 0, 0, 0, 0, 0, []),
  (41, .invokevirtual 97, 3, 55, 2, 3, 0, 6, [73]),
  (44, .aload_n 0, 1, 0, 0, 0, 0, 0, []),
  (45, .iconst 0, 1, 0, 0, 0, 0, 0, []),
  (46, .putfield 188, 3, 8, 7, 0, 0, 0, [98]),
  (49, .aload_n 0, 1, 0, 0, 0, 0, 0, []),
  (50, .iconst 0, 1, 0, 0, 0, 0, 0, []),
  (51, .putfield 191, 3, 8, 8, 0, 0, 0, [99]),
  (54, .aload_n 0, 1, 0, 0, 0, 0, 0, []),
  (55, .getfield 185, 3, 8, 5, 0, 0, 0, [97]),
  (58, .ireturn, 1, 0, 0, 0, 0, 0, [])]
abbrev kRS_keep : Nat := 96
def cRS_keep : List xE := [(0, .iload_n 1, 1, 1, 0, 0, 0, 0, []),
  (1, .ifCond .lt 8, 3, 9, 0, 0, 0, 0, []),
  (4, .iload_n 1, 1, 1, 0, 0, 0, 0, []),
  (5, .iconst 2, 1, 0, 0, 0, 0, 2, []),
  (6, .if_icmp .lt 5, 3, 11, 0, 0, 0, 0, []),
  (9, .iconst (-1), 1, 0, 0, 0, 0, (-1), []),
  (10, .ireturn, 1, 0, 0, 0, 0, 0, []),
  (11, .aload_n 0, 1, 0, 0, 0, 0, 0, []),
  (12, .getfield 30, 3, 8, 4, 6, 2, 18, [82]),
  (15, .iload_n 1, 1, 1, 0, 0, 0, 0, []),
  (16, .aaload, 1, 0, 0, 0, 0, 0, []),
  (17, .aload_n 0, 1, 0, 0, 0, 0, 0, []),
  (18, .getfield 19, 3, 8, 1, 2, 6, 3, [79]),
  (21, .invokevirtual 97, 3, 55, 2, 3, 0, 6, [73]),
  (24, .aload_n 0, 1, 0, 0, 0, 0, 0, []),
  (25, .dup, 1, 0, 0, 0, 0, 0, []),
  (26, .getfield 194, 3, 8, 6, 0, 0, 0, [100]),
  (29, .iconst 1, 1, 0, 0, 0, 0, 1, []),
  (30, .iload_n 1, 1, 1, 0, 0, 0, 0, []),
  (31, .ishl, 1, 0, 0, 0, 0, 0, []),
  (32, .ior, 1, 0, 0, 0, 0, 0, []),
  (33, .putfield 194, 3, 8, 6, 0, 0, 0, [100]),
  (36, .aload_n 0, 1, 0, 0, 0, 0, 0, []),
  (37, .getfield 19, 3, 8, 1, 2, 6, 3, [79]),
  (40, .getfield 104, 3, 6, 0, 0, 0, 0, [92]),
  (43, .ireturn, 1, 0, 0, 0, 0, 0, [])]
abbrev kRS_back : Nat := 97
def cRS_back : List xE := [(0, .iload_n 1, 1, 1, 0, 0, 0, 0, []),
  (1, .ifCond .lt 8, 3, 9, 0, 0, 0, 0, []),
  (4, .iload_n 1, 1, 1, 0, 0, 0, 0, []),
  (5, .iconst 2, 1, 0, 0, 0, 0, 2, []),
  (6, .if_icmp .lt 5, 3, 11, 0, 0, 0, 0, []),
  (9, .iconst (-1), 1, 0, 0, 0, 0, (-1), []),
  (10, .ireturn, 1, 0, 0, 0, 0, 0, []),
  (11, .aload_n 0, 1, 0, 0, 0, 0, 0, []),
  (12, .iload_n 1, 1, 1, 0, 0, 0, 0, []),
  (13, .invokevirtual 197, 3, 125, 2, 2, 1, 8, [93]),
  (16, .ifCond .ne 6, 3, 22, 0, 0, 0, 0, []),
  (19, .bipush (-2), 2, 0, 0, 0, 0, (-2), []),
  (21, .ireturn, 1, 0, 0, 0, 0, 0, []),
  (22, .aload_n 0, 1, 0, 0, 0, 0, 0, []),
  (23, .getfield 19, 3, 8, 1, 2, 6, 3, [79]),
  (26, .aload_n 0, 1, 0, 0, 0, 0, 0, []),
  (27, .getfield 30, 3, 8, 4, 6, 2, 18, [82]),
  (30, .iload_n 1, 1, 1, 0, 0, 0, 0, []),
  (31, .aaload, 1, 0, 0, 0, 0, 0, []),
  (32, .invokevirtual 97, 3, 55, 2, 3, 0, 6, [73]),
  (35, .aload_n 0, 1, 0, 0, 0, 0, 0, []),
  (36, .invokevirtual 101, 3, 129, 1, 1, 0, 8, [74]),
  (39, .aload_n 0, 1, 0, 0, 0, 0, 0, []),
  (40, .getfield 19, 3, 8, 1, 2, 6, 3, [79]),
  (43, .getfield 104, 3, 6, 0, 0, 0, 0, [92]),
  (46, .ireturn, 1, 0, 0, 0, 0, 0, [])]
abbrev kRS_look : Nat := 98
def cRS_look : List xE := [(0, .iload_n 1, 1, 1, 0, 0, 0, 0, []),
  (1, .invokestatic 125, 3, 119, 1, 1, 1, 0, [80]),
  (4, .lstore_n 3, 1, 3, 0, 0, 0, 0, []),
  (5, .iload_n 2, 1, 2, 0, 0, 0, 0, []),
  (6, .ifCond .eq 13, 3, 19, 0, 0, 0, 0, []),
  (9, .iload_n 2, 1, 2, 0, 0, 0, 0, []),
  (10, .iconst 1, 1, 0, 0, 0, 0, 1, []),
  (11, .if_icmp .eq 8, 3, 19, 0, 0, 0, 0, []),
  (14, .iload_n 2, 1, 2, 0, 0, 0, 0, []),
  (15, .iconst 4, 1, 0, 0, 0, 0, 4, []),
  (16, .if_icmp .ne 17, 3, 33, 0, 0, 0, 0, []),
  (19, .aload_n 0, 1, 0, 0, 0, 0, 0, []),
  (20, .aload_n 0, 1, 0, 0, 0, 0, 0, []),
  (21, .getfield 19, 3, 8, 1, 2, 6, 3, [79]),
  (24, .lload_n 3, 1, 3, 0, 0, 0, 0, []),
  (25, .invokevirtual 201, 3, 65, 2, 5, 1, 6, [94]),
  (28, .iload_n 2, 1, 2, 0, 0, 0, 0, []),
  (29, .invokevirtual 205, 3, 126, 3, 4, 1, 8, [95]),
  (32, .ireturn, 1, 0, 0, 0, 0, 0, []),
  (33, .iload_n 2, 1, 2, 0, 0, 0, 0, []),
  (34, .iconst 2, 1, 0, 0, 0, 0, 2, []),
  (35, .if_icmp .eq 10, 3, 45, 0, 0, 0, 0, []),
  (38, .iload_n 2, 1, 2, 0, 0, 0, 0, []),
  (39, .iconst 3, 1, 0, 0, 0, 0, 3, []),
  (40, .if_icmp .eq 5, 3, 45, 0, 0, 0, 0, []),
  (43, .iconst (-1), 1, 0, 0, 0, 0, (-1), []),
  (44, .ireturn, 1, 0, 0, 0, 0, 0, []),
  (45, .aload_n 0, 1, 0, 0, 0, 0, 0, []),
  (46, .invokevirtual 208, 3, 133, 1, 1, 0, 8, [96]),
  (49, .aload_n 0, 1, 0, 0, 0, 0, 0, []),
  (50, .getfield 46, 3, 8, 11, 2, 3, 35, [85]),
  (53, .lload_n 3, 1, 3, 0, 0, 0, 0, []),
  (54, .invokevirtual 211, 3, 35, 2, 4, 1, 3, [97]),
  (57, .istore 5, 2, 5, 0, 0, 0, 0, []),
  (59, .iload_n 2, 1, 2, 0, 0, 0, 0, []),
  (60, .iconst 2, 1, 0, 0, 0, 0, 2, []),
  (61, .if_icmp .ne 8, 3, 69, 0, 0, 0, 0, []),
  (64, .iload 5, 2, 5, 0, 0, 0, 0, []),
  (66, .goto 11, 3, 77, 0, 0, 0, 0, []),
  (69, .aload_n 0, 1, 0, 0, 0, 0, 0, []),
  (70, .getfield 46, 3, 8, 11, 2, 3, 35, [85]),
  (73, .lload_n 3, 1, 3, 0, 0, 0, 0, []),
  (74, .invokevirtual 214, 3, 36, 2, 3, 1, 3, [98]),
  (77, .ireturn, 1, 0, 0, 0, 0, 0, [])]
abbrev kRS_path : Nat := 99
def cRS_path : List xE := [(0, .iload_n 2, 1, 2, 0, 0, 0, 0, []),
  (1, .ifCond .ge 5, 3, 6, 0, 0, 0, 0, []),
  (4, .iconst (-1), 1, 0, 0, 0, 0, (-1), []),
  (5, .ireturn, 1, 0, 0, 0, 0, 0, []),
  (6, .aload_n 0, 1, 0, 0, 0, 0, 0, []),
  (7, .invokevirtual 208, 3, 133, 1, 1, 0, 8, [96]),
  (10, .aload_n 0, 1, 0, 0, 0, 0, 0, []),
  (11, .getfield 46, 3, 8, 11, 2, 3, 35, [85]),
  (14, .iload_n 1, 1, 1, 0, 0, 0, 0, []),
  (15, .invokestatic 125, 3, 119, 1, 1, 1, 0, [80]),
  (18, .invokevirtual 211, 3, 35, 2, 4, 1, 3, [97]),
  (21, .istore_n 3, 1, 3, 0, 0, 0, 0, []),
  (22, .iload_n 2, 1, 2, 0, 0, 0, 0, []),
  (23, .iload_n 3, 1, 3, 0, 0, 0, 0, []),
  (24, .if_icmp .ge 15, 3, 39, 0, 0, 0, 0, []),
  (27, .aload_n 0, 1, 0, 0, 0, 0, 0, []),
  (28, .getfield 46, 3, 8, 11, 2, 3, 35, [85]),
  (31, .getfield 217, 3, 3, 7, 3, 16, 7, [101]),
  (34, .iload_n 2, 1, 2, 0, 0, 0, 0, []),
  (35, .iaload, 1, 0, 0, 0, 0, 0, []),
  (36, .goto 5, 3, 41, 0, 0, 0, 0, []),
  (39, .bipush (-2), 2, 0, 0, 0, 0, (-2), []),
  (41, .ireturn, 1, 0, 0, 0, 0, 0, [])]
abbrev kRS_would : Nat := 100
def cRS_would : List xE := [(0, .iload_n 1, 1, 1, 0, 0, 0, 0, []),
  (1, .iload_n 2, 1, 2, 0, 0, 0, 0, []),
  (2, .invokestatic 107, 3, 121, 2, 2, 1, 0, [75]),
  (5, .ifCond .eq 12, 3, 17, 0, 0, 0, 0, []),
  (8, .iload_n 3, 1, 3, 0, 0, 0, 0, []),
  (9, .iload 4, 2, 4, 0, 0, 0, 0, []),
  (11, .invokestatic 111, 3, 122, 2, 2, 1, 0, [76]),
  (14, .ifCond .ne 5, 3, 19, 0, 0, 0, 0, []),
  (17, .iconst (-1), 1, 0, 0, 0, 0, (-1), []),
  (18, .ireturn, 1, 0, 0, 0, 0, 0, []),
  (19, .iload_n 3, 1, 3, 0, 0, 0, 0, []),
  (20, .iload 4, 2, 4, 0, 0, 0, 0, []),
  (22, .invokestatic 114, 3, 123, 2, 2, 1, 0, [77]),
  (25, .istore 5, 2, 5, 0, 0, 0, 0, []),
  (27, .aload_n 0, 1, 0, 0, 0, 0, 0, []),
  (28, .iload_n 1, 1, 1, 0, 0, 0, 0, []),
  (29, .iload_n 2, 1, 2, 0, 0, 0, 0, []),
  (30, .iload 5, 2, 5, 0, 0, 0, 0, []),
  (32, .invokevirtual 118, 3, 124, 4, 5, 1, 8, [78]),
  (35, .istore 6, 2, 6, 0, 0, 0, 0, []),
  (37, .iload 6, 2, 6, 0, 0, 0, 0, []),
  (39, .ifCond .eq 17, 3, 56, 0, 0, 0, 0, []),
  (42, .iload 6, 2, 6, 0, 0, 0, 0, []),
  (44, .bipush (-2), 2, 0, 0, 0, 0, (-2), []),
  (46, .if_icmp .ne 7, 3, 53, 0, 0, 0, 0, []),
  (49, .iconst 0, 1, 0, 0, 0, 0, 0, []),
  (50, .goto 5, 3, 55, 0, 0, 0, 0, []),
  (53, .iload 6, 2, 6, 0, 0, 0, 0, []),
  (55, .ireturn, 1, 0, 0, 0, 0, 0, []),
  (56, .aload_n 0, 1, 0, 0, 0, 0, 0, []),
  (57, .getfield 23, 3, 8, 2, 2, 6, 10, [80]),
  (60, .aload_n 0, 1, 0, 0, 0, 0, 0, []),
  (61, .getfield 19, 3, 8, 1, 2, 6, 3, [79]),
  (64, .invokevirtual 97, 3, 55, 2, 3, 0, 6, [73]),
  (67, .aload_n 0, 1, 0, 0, 0, 0, 0, []),
  (68, .getfield 23, 3, 8, 2, 2, 6, 10, [80]),
  (71, .iload_n 1, 1, 1, 0, 0, 0, 0, []),
  (72, .invokestatic 125, 3, 119, 1, 1, 1, 0, [80]),
  (75, .iload_n 2, 1, 2, 0, 0, 0, 0, []),
  (76, .iload 5, 2, 5, 0, 0, 0, 0, []),
  (78, .invokevirtual 129, 3, 66, 4, 6, 1, 6, [81]),
  (81, .pop, 1, 0, 0, 0, 0, 0, []),
  (82, .aload_n 0, 1, 0, 0, 0, 0, 0, []),
  (83, .invokevirtual 208, 3, 133, 1, 1, 0, 8, [96]),
  (86, .aload_n 0, 1, 0, 0, 0, 0, 0, []),
  (87, .aload_n 0, 1, 0, 0, 0, 0, 0, []),
  (88, .getfield 23, 3, 8, 2, 2, 6, 10, [80]),
  (91, .invokevirtual 220, 3, 131, 2, 2, 1, 8, [99]),
  (94, .ireturn, 1, 0, 0, 0, 0, 0, [])]
abbrev kRS_within : Nat := 101
def cRS_within : List xE := [(0, .iload_n 1, 1, 1, 0, 0, 0, 0, []),
  (1, .iload_n 2, 1, 2, 0, 0, 0, 0, []),
  (2, .invokestatic 107, 3, 121, 2, 2, 1, 0, [75]),
  (5, .ifCond .eq 8, 3, 13, 0, 0, 0, 0, []),
  (8, .iload_n 3, 1, 3, 0, 0, 0, 0, []),
  (9, .iconst (-1), 1, 0, 0, 0, 0, (-1), []),
  (10, .if_icmp .ge 5, 3, 15, 0, 0, 0, 0, []),
  (13, .iconst (-1), 1, 0, 0, 0, 0, (-1), []),
  (14, .ireturn, 1, 0, 0, 0, 0, 0, []),
  (15, .iload_n 1, 1, 1, 0, 0, 0, 0, []),
  (16, .invokestatic 125, 3, 119, 1, 1, 1, 0, [80]),
  (19, .lstore 4, 2, 4, 0, 0, 0, 0, []),
  (21, .aload_n 0, 1, 0, 0, 0, 0, 0, []),
  (22, .getfield 19, 3, 8, 1, 2, 6, 3, [79]),
  (25, .lload 4, 2, 4, 0, 0, 0, 0, []),
  (27, .iload_n 2, 1, 2, 0, 0, 0, 0, []),
  (28, .invokevirtual 223, 3, 60, 3, 5, 1, 6, [100]),
  (31, .istore 6, 2, 6, 0, 0, 0, 0, []),
  (33, .aload_n 0, 1, 0, 0, 0, 0, 0, []),
  (34, .getfield 19, 3, 8, 1, 2, 6, 3, [79]),
  (37, .lload 4, 2, 4, 0, 0, 0, 0, []),
  (39, .iload_n 2, 1, 2, 0, 0, 0, 0, []),
  (40, .invokestatic 226, 3, 120, 1, 1, 1, 0, [101]),
  (43, .ladd, 1, 0, 0, 0, 0, 0, []),
  (44, .iconst 0, 1, 0, 0, 0, 0, 0, []),
  (45, .invokevirtual 223, 3, 60, 3, 5, 1, 6, [100]),
  (48, .istore 7, 2, 7, 0, 0, 0, 0, []),
  (50, .iload_n 3, 1, 3, 0, 0, 0, 0, []),
  (51, .iconst (-1), 1, 0, 0, 0, 0, (-1), []),
  (52, .if_icmp .ne 9, 3, 61, 0, 0, 0, 0, []),
  (55, .iload 7, 2, 7, 0, 0, 0, 0, []),
  (57, .iload 6, 2, 6, 0, 0, 0, 0, []),
  (59, .isub, 1, 0, 0, 0, 0, 0, []),
  (60, .ireturn, 1, 0, 0, 0, 0, 0, []),
  (61, .iload_n 3, 1, 3, 0, 0, 0, 0, []),
  (62, .iload 7, 2, 7, 0, 0, 0, 0, []),
  (64, .iload 6, 2, 6, 0, 0, 0, 0, []),
  (66, .isub, 1, 0, 0, 0, 0, 0, []),
  (67, .if_icmp .ge 10, 3, 77, 0, 0, 0, 0, []),
  (70, .iload 6, 2, 6, 0, 0, 0, 0, []),
  (72, .iload_n 3, 1, 3, 0, 0, 0, 0, []),
  (73, .iadd, 1, 0, 0, 0, 0, 0, []),
  (74, .goto 5, 3, 79, 0, 0, 0, 0, []),
  (77, .bipush (-2), 2, 0, 0, 0, 0, (-2), []),
  (79, .ireturn, 1, 0, 0, 0, 0, 0, [])]
abbrev kRS_differs : Nat := 102
def cRS_differs : List xE := [(0, .iload_n 1, 1, 1, 0, 0, 0, 0, []),
  (1, .ifCond .lt 25, 3, 26, 0, 0, 0, 0, []),
  (4, .iload_n 1, 1, 1, 0, 0, 0, 0, []),
  (5, .iconst 2, 1, 0, 0, 0, 0, 2, []),
  (6, .if_icmp .ge 20, 3, 26, 0, 0, 0, 0, []),
  (9, .aload_n 0, 1, 0, 0, 0, 0, 0, []),
  (10, .iload_n 1, 1, 1, 0, 0, 0, 0, []),
  (11, .invokevirtual 197, 3, 125, 2, 2, 1, 8, [93]),
  (14, .ifCond .eq 12, 3, 26, 0, 0, 0, 0, []),
  (17, .iload_n 2, 1, 2, 0, 0, 0, 0, []),
  (18, .ifCond .eq 12, 3, 30, 0, 0, 0, 0, []),
  (21, .iload_n 2, 1, 2, 0, 0, 0, 0, []),
  (22, .iconst 1, 1, 0, 0, 0, 0, 1, []),
  (23, .if_icmp .eq 7, 3, 30, 0, 0, 0, 0, []),
  (26, .ldc2_w 229, 3, 0, 0, 0, 0, (-1), [11]),
  (29, .lreturn, 1, 0, 0, 0, 0, 0, []),
  (30, .aload_n 0, 1, 0, 0, 0, 0, 0, []),
  (31, .invokevirtual 231, 3, 132, 1, 1, 0, 8, [102]),
  (34, .aload_n 0, 1, 0, 0, 0, 0, 0, []),
  (35, .getfield 40, 3, 8, 10, 2, 5, 27, [84]),
  (38, .aload_n 0, 1, 0, 0, 0, 0, 0, []),
  (39, .getfield 30, 3, 8, 4, 6, 2, 18, [82]),
  (42, .iload_n 1, 1, 1, 0, 0, 0, 0, []),
  (43, .aaload, 1, 0, 0, 0, 0, 0, []),
  (44, .invokevirtual 234, 3, 45, 2, 3, 0, 5, [103]),
  (47, .aload_n 0, 1, 0, 0, 0, 0, 0, []),
  (48, .getfield 36, 3, 8, 9, 2, 5, 19, [83]),
  (51, .aload_n 0, 1, 0, 0, 0, 0, 0, []),
  (52, .getfield 40, 3, 8, 10, 2, 5, 27, [84]),
  (55, .iload_n 2, 1, 2, 0, 0, 0, 0, []),
  (56, .iconst 1, 1, 0, 0, 0, 0, 1, []),
  (57, .if_icmp .ne 7, 3, 64, 0, 0, 0, 0, []),
  (60, .iconst 1, 1, 0, 0, 0, 0, 1, []),
  (61, .goto 4, 3, 65, 0, 0, 0, 0, []),
  (64, .iconst 0, 1, 0, 0, 0, 0, 0, []),
  (65, .invokevirtual 237, 3, 52, 3, 12, 1, 5, [104]),
  (68, .lreturn, 1, 0, 0, 0, 0, 0, [])]
abbrev kRS_rule : Nat := 103
def cRS_rule : List xE := [(0, .iload_n 1, 1, 1, 0, 0, 0, 0, []),
  (1, .ifCond .lt 14, 3, 15, 0, 0, 0, 0, []),
  (4, .iload_n 1, 1, 1, 0, 0, 0, 0, []),
  (5, .aload_n 0, 1, 0, 0, 0, 0, 0, []),
  (6, .getfield 19, 3, 8, 1, 2, 6, 3, [79]),
  (9, .getfield 104, 3, 6, 0, 0, 0, 0, [92]),
  (12, .if_icmp .lt 14, 3, 26, 0, 0, 0, 0, []),
  (15, .iload_n 2, 1, 2, 0, 0, 0, 0, []),
  (16, .ifCond .ne 7, 3, 23, 0, 0, 0, 0, []),
  (19, .iconst 0, 1, 0, 0, 0, 0, 0, []),
  (20, .goto 5, 3, 25, 0, 0, 0, 0, []),
  (23, .bipush (-2), 2, 0, 0, 0, 0, (-2), []),
  (25, .ireturn, 1, 0, 0, 0, 0, 0, []),
  (26, .iload_n 2, 1, 2, 0, 0, 0, 0, []),
  (27, .tableswitch 102 0 4 #[33, 44, 54, 64, 88], 33, 129, 0, 0, 0, 0, [60, 71, 81, 91, 115]),
  (60, .aload_n 0, 1, 0, 0, 0, 0, 0, []),
  (61, .getfield 19, 3, 8, 1, 2, 6, 3, [79]),
  (64, .getfield 241, 3, 6, 1, 4, 60, 1, [102]),
  (67, .iload_n 1, 1, 1, 0, 0, 0, 0, []),
  (68, .laload, 1, 0, 0, 0, 0, 0, []),
  (69, .l2i, 1, 0, 0, 0, 0, 0, []),
  (70, .ireturn, 1, 0, 0, 0, 0, 0, []),
  (71, .aload_n 0, 1, 0, 0, 0, 0, 0, []),
  (72, .getfield 19, 3, 8, 1, 2, 6, 3, [79]),
  (75, .getfield 242, 3, 6, 2, 3, 60, 2, [103]),
  (78, .iload_n 1, 1, 1, 0, 0, 0, 0, []),
  (79, .iaload, 1, 0, 0, 0, 0, 0, []),
  (80, .ireturn, 1, 0, 0, 0, 0, 0, []),
  (81, .aload_n 0, 1, 0, 0, 0, 0, 0, []),
  (82, .getfield 19, 3, 8, 1, 2, 6, 3, [79]),
  (85, .getfield 243, 3, 6, 3, 3, 60, 3, [104]),
  (88, .iload_n 1, 1, 1, 0, 0, 0, 0, []),
  (89, .iaload, 1, 0, 0, 0, 0, 0, []),
  (90, .ireturn, 1, 0, 0, 0, 0, 0, []),
  (91, .aload_n 0, 1, 0, 0, 0, 0, 0, []),
  (92, .invokevirtual 231, 3, 132, 1, 1, 0, 8, [102]),
  (95, .aload_n 0, 1, 0, 0, 0, 0, 0, []),
  (96, .getfield 36, 3, 8, 9, 2, 5, 19, [83]),
  (99, .getfield 246, 3, 5, 5, 4, 60, 5, [105]),
  (102, .iload_n 1, 1, 1, 0, 0, 0, 0, []),
  (103, .laload, 1, 0, 0, 0, 0, 0, []),
  (104, .lconst 0, 1, 0, 0, 0, 0, 0, []),
  (105, .lcmp, 4, 113, 1, 0, 0, 0, []),
  (109, .iconst 1, 1, 0, 0, 0, 0, 1, []),
  (110, .goto 4, 3, 114, 0, 0, 0, 0, []),
  (113, .iconst 0, 1, 0, 0, 0, 0, 0, []),
  (114, .ireturn, 1, 0, 0, 0, 0, 0, []),
  (115, .aload_n 0, 1, 0, 0, 0, 0, 0, []),
  (116, .invokevirtual 231, 3, 132, 1, 1, 0, 8, [102]),
  (119, .aload_n 0, 1, 0, 0, 0, 0, 0, []),
  (120, .getfield 36, 3, 8, 9, 2, 5, 19, [83]),
  (123, .getfield 249, 3, 5, 6, 3, 60, 6, [106]),
  (126, .iload_n 1, 1, 1, 0, 0, 0, 0, []),
  (127, .iaload, 1, 0, 0, 0, 0, 0, []),
  (128, .ireturn, 1, 0, 0, 0, 0, 0, []),
  (129, .bipush (-2), 2, 0, 0, 0, 0, (-2), []),
  (131, .ireturn, 1, 0, 0, 0, 0, 0, [])]
abbrev kRS_served : Nat := 104
def cRS_served : List xE := [(0, .iload_n 1, 1, 1, 0, 0, 0, 0, []),
  (1, .ifCond .lt 14, 3, 15, 0, 0, 0, 0, []),
  (4, .iload_n 1, 1, 1, 0, 0, 0, 0, []),
  (5, .aload_n 0, 1, 0, 0, 0, 0, 0, []),
  (6, .getfield 19, 3, 8, 1, 2, 6, 3, [79]),
  (9, .getfield 104, 3, 6, 0, 0, 0, 0, [92]),
  (12, .if_icmp .lt 7, 3, 19, 0, 0, 0, 0, []),
  (15, .ldc2_w 229, 3, 0, 0, 0, 0, (-1), [11]),
  (18, .lreturn, 1, 0, 0, 0, 0, 0, []),
  (19, .aload_n 0, 1, 0, 0, 0, 0, 0, []),
  (20, .invokevirtual 231, 3, 132, 1, 1, 0, 8, [102]),
  (23, .aload_n 0, 1, 0, 0, 0, 0, 0, []),
  (24, .getfield 36, 3, 8, 9, 2, 5, 19, [83]),
  (27, .getfield 246, 3, 5, 5, 4, 60, 5, [105]),
  (30, .iload_n 1, 1, 1, 0, 0, 0, 0, []),
  (31, .laload, 1, 0, 0, 0, 0, 0, []),
  (32, .lreturn, 1, 0, 0, 0, 0, 0, [])]
abbrev kRS_hop : Nat := 105
def cRS_hop : List xE := [(0, .aload_n 0, 1, 0, 0, 0, 0, 0, []),
  (1, .getfield 19, 3, 8, 1, 2, 6, 3, [79]),
  (4, .iload_n 1, 1, 1, 0, 0, 0, 0, []),
  (5, .invokevirtual 252, 3, 62, 2, 2, 1, 6, [105]),
  (8, .ifCond .ne 5, 3, 13, 0, 0, 0, 0, []),
  (11, .iconst (-1), 1, 0, 0, 0, 0, (-1), []),
  (12, .ireturn, 1, 0, 0, 0, 0, 0, []),
  (13, .iload_n 2, 1, 2, 0, 0, 0, 0, []),
  (14, .tableswitch 62 0 2 #[26, 39, 52], 26, 76, 0, 0, 0, 0, [40, 53, 66]),
  (40, .aload_n 0, 1, 0, 0, 0, 0, 0, []),
  (41, .getfield 19, 3, 8, 1, 2, 6, 3, [79]),
  (44, .getfield 255, 3, 6, 4, 3, 60, 4, [107]),
  (47, .iload_n 1, 1, 1, 0, 0, 0, 0, []),
  (48, .iaload, 1, 0, 0, 0, 0, 0, []),
  (49, .bipush 10, 2, 0, 0, 0, 0, 10, []),
  (51, .idiv, 1, 0, 0, 0, 0, 0, []),
  (52, .ireturn, 1, 0, 0, 0, 0, 0, []),
  (53, .aload_n 0, 1, 0, 0, 0, 0, 0, []),
  (54, .getfield 19, 3, 8, 1, 2, 6, 3, [79]),
  (57, .getfield 255, 3, 6, 4, 3, 60, 4, [107]),
  (60, .iload_n 1, 1, 1, 0, 0, 0, 0, []),
  (61, .iaload, 1, 0, 0, 0, 0, 0, []),
  (62, .bipush 10, 2, 0, 0, 0, 0, 10, []),
  (64, .irem, 1, 0, 0, 0, 0, 0, []),
  (65, .ireturn, 1, 0, 0, 0, 0, 0, []),
  (66, .aload_n 0, 1, 0, 0, 0, 0, 0, []),
  (67, .getfield 19, 3, 8, 1, 2, 6, 3, [79]),
  (70, .getfield 258, 3, 6, 5, 3, 60, 5, [108]),
  (73, .iload_n 1, 1, 1, 0, 0, 0, 0, []),
  (74, .iaload, 1, 0, 0, 0, 0, 0, []),
  (75, .ireturn, 1, 0, 0, 0, 0, 0, []),
  (76, .iconst (-1), 1, 0, 0, 0, 0, (-1), []),
  (77, .ireturn, 1, 0, 0, 0, 0, 0, [])]
abbrev kRS_reach : Nat := 106
def cRS_reach : List xE := [(0, .iload_n 1, 1, 1, 0, 0, 0, 0, []),
  (1, .iconst (-1), 1, 0, 0, 0, 0, (-1), []),
  (2, .if_icmp .eq 18, 3, 20, 0, 0, 0, 0, []),
  (5, .aload_n 0, 1, 0, 0, 0, 0, 0, []),
  (6, .getfield 19, 3, 8, 1, 2, 6, 3, [79]),
  (9, .iload_n 1, 1, 1, 0, 0, 0, 0, []),
  (10, .invokevirtual 252, 3, 62, 2, 2, 1, 6, [105]),
  (13, .ifCond .ne 7, 3, 20, 0, 0, 0, 0, []),
  (16, .ldc2_w 261, 3, 0, 0, 0, 0, (-2), [12]),
  (19, .lreturn, 1, 0, 0, 0, 0, 0, []),
  (20, .aload_n 0, 1, 0, 0, 0, 0, 0, []),
  (21, .invokevirtual 231, 3, 132, 1, 1, 0, 8, [102]),
  (24, .aload_n 0, 1, 0, 0, 0, 0, 0, []),
  (25, .getfield 36, 3, 8, 9, 2, 5, 19, [83]),
  (28, .iload_n 1, 1, 1, 0, 0, 0, 0, []),
  (29, .invokevirtual 263, 3, 51, 2, 5, 1, 5, [106]),
  (32, .lreturn, 1, 0, 0, 0, 0, 0, [])]
abbrev kRS_node : Nat := 107
def cRS_node : List xE := [(0, .aload_n 0, 1, 0, 0, 0, 0, 0, []),
  (1, .invokevirtual 208, 3, 133, 1, 1, 0, 8, [96]),
  (4, .aload_n 0, 1, 0, 0, 0, 0, 0, []),
  (5, .getfield 46, 3, 8, 11, 2, 3, 35, [85]),
  (8, .iload_n 1, 1, 1, 0, 0, 0, 0, []),
  (9, .invokevirtual 266, 3, 24, 2, 2, 1, 3, [107]),
  (12, .ifCond .ne 20, 3, 32, 0, 0, 0, 0, []),
  (15, .iload_n 2, 1, 2, 0, 0, 0, 0, []),
  (16, .ifCond .eq 8, 3, 24, 0, 0, 0, 0, []),
  (19, .iload_n 2, 1, 2, 0, 0, 0, 0, []),
  (20, .iconst 1, 1, 0, 0, 0, 0, 1, []),
  (21, .if_icmp .ne 7, 3, 28, 0, 0, 0, 0, []),
  (24, .lconst 0, 1, 0, 0, 0, 0, 0, []),
  (25, .goto 6, 3, 31, 0, 0, 0, 0, []),
  (28, .ldc2_w 261, 3, 0, 0, 0, 0, (-2), [12]),
  (31, .lreturn, 1, 0, 0, 0, 0, 0, []),
  (32, .iload_n 2, 1, 2, 0, 0, 0, 0, []),
  (33, .tableswitch 101 0 5 #[39, 49, 59, 70, 80, 90], 39, 134, 0, 0, 0, 0, [72, 82, 92, 103, 113, 123]),
  (72, .aload_n 0, 1, 0, 0, 0, 0, 0, []),
  (73, .getfield 46, 3, 8, 11, 2, 3, 35, [85]),
  (76, .getfield 269, 3, 3, 3, 4, 901, 3, [109]),
  (79, .iload_n 1, 1, 1, 0, 0, 0, 0, []),
  (80, .laload, 1, 0, 0, 0, 0, 0, []),
  (81, .lreturn, 1, 0, 0, 0, 0, 0, []),
  (82, .aload_n 0, 1, 0, 0, 0, 0, 0, []),
  (83, .getfield 46, 3, 8, 11, 2, 3, 35, [85]),
  (86, .getfield 272, 3, 3, 4, 4, 901, 4, [110]),
  (89, .iload_n 1, 1, 1, 0, 0, 0, 0, []),
  (90, .laload, 1, 0, 0, 0, 0, 0, []),
  (91, .lreturn, 1, 0, 0, 0, 0, 0, []),
  (92, .aload_n 0, 1, 0, 0, 0, 0, 0, []),
  (93, .getfield 46, 3, 8, 11, 2, 3, 35, [85]),
  (96, .getfield 275, 3, 3, 2, 3, 901, 2, [111]),
  (99, .iload_n 1, 1, 1, 0, 0, 0, 0, []),
  (100, .iaload, 1, 0, 0, 0, 0, 0, []),
  (101, .i2l, 1, 0, 0, 0, 0, 0, []),
  (102, .lreturn, 1, 0, 0, 0, 0, 0, []),
  (103, .aload_n 0, 1, 0, 0, 0, 0, 0, []),
  (104, .getfield 46, 3, 8, 11, 2, 3, 35, [85]),
  (107, .getfield 278, 3, 3, 1, 4, 901, 1, [112]),
  (110, .iload_n 1, 1, 1, 0, 0, 0, 0, []),
  (111, .laload, 1, 0, 0, 0, 0, 0, []),
  (112, .lreturn, 1, 0, 0, 0, 0, 0, []),
  (113, .aload_n 0, 1, 0, 0, 0, 0, 0, []),
  (114, .getfield 46, 3, 8, 11, 2, 3, 35, [85]),
  (117, .iload_n 1, 1, 1, 0, 0, 0, 0, []),
  (118, .invokevirtual 279, 3, 28, 2, 2, 1, 3, [108]),
  (121, .i2l, 1, 0, 0, 0, 0, 0, []),
  (122, .lreturn, 1, 0, 0, 0, 0, 0, []),
  (123, .aload_n 0, 1, 0, 0, 0, 0, 0, []),
  (124, .getfield 46, 3, 8, 11, 2, 3, 35, [85]),
  (127, .getfield 282, 3, 3, 5, 3, 901, 5, [113]),
  (130, .iload_n 1, 1, 1, 0, 0, 0, 0, []),
  (131, .iaload, 1, 0, 0, 0, 0, 0, []),
  (132, .i2l, 1, 0, 0, 0, 0, 0, []),
  (133, .lreturn, 1, 0, 0, 0, 0, 0, []),
  (134, .ldc2_w 261, 3, 0, 0, 0, 0, (-2), [12]),
  (137, .lreturn, 1, 0, 0, 0, 0, 0, [])]
abbrev kRS_stored : Nat := 108
def cRS_stored : List xE := [(0, .aload_n 0, 1, 0, 0, 0, 0, 0, []),
  (1, .invokevirtual 208, 3, 133, 1, 1, 0, 8, [96]),
  (4, .aload_n 0, 1, 0, 0, 0, 0, 0, []),
  (5, .getfield 46, 3, 8, 11, 2, 3, 35, [85]),
  (8, .iload_n 1, 1, 1, 0, 0, 0, 0, []),
  (9, .iload_n 2, 1, 2, 0, 0, 0, 0, []),
  (10, .invokevirtual 285, 3, 29, 3, 3, 1, 3, [109]),
  (13, .ireturn, 1, 0, 0, 0, 0, 0, [])]
abbrev kRS_slot : Nat := 109
def cRS_slot : List xE := [(0, .aload_n 0, 1, 0, 0, 0, 0, 0, []),
  (1, .invokevirtual 208, 3, 133, 1, 1, 0, 8, [96]),
  (4, .aload_n 0, 1, 0, 0, 0, 0, 0, []),
  (5, .getfield 46, 3, 8, 11, 2, 3, 35, [85]),
  (8, .iload_n 1, 1, 1, 0, 0, 0, 0, []),
  (9, .invokevirtual 266, 3, 24, 2, 2, 1, 3, [107]),
  (12, .ifCond .eq 28, 3, 40, 0, 0, 0, 0, []),
  (15, .iload_n 2, 1, 2, 0, 0, 0, 0, []),
  (16, .ifCond .lt 24, 3, 40, 0, 0, 0, 0, []),
  (19, .iload_n 2, 1, 2, 0, 0, 0, 0, []),
  (20, .aload_n 0, 1, 0, 0, 0, 0, 0, []),
  (21, .getfield 46, 3, 8, 11, 2, 3, 35, [85]),
  (24, .iload_n 1, 1, 1, 0, 0, 0, 0, []),
  (25, .invokevirtual 288, 3, 27, 2, 2, 1, 3, [110]),
  (28, .if_icmp .ge 12, 3, 40, 0, 0, 0, 0, []),
  (31, .iload_n 3, 1, 3, 0, 0, 0, 0, []),
  (32, .ifCond .eq 11, 3, 43, 0, 0, 0, 0, []),
  (35, .iload_n 3, 1, 3, 0, 0, 0, 0, []),
  (36, .iconst 1, 1, 0, 0, 0, 0, 1, []),
  (37, .if_icmp .eq 6, 3, 43, 0, 0, 0, 0, []),
  (40, .bipush (-3), 2, 0, 0, 0, 0, (-3), []),
  (42, .ireturn, 1, 0, 0, 0, 0, 0, []),
  (43, .aload_n 0, 1, 0, 0, 0, 0, 0, []),
  (44, .getfield 46, 3, 8, 11, 2, 3, 35, [85]),
  (47, .iload_n 1, 1, 1, 0, 0, 0, 0, []),
  (48, .iload_n 2, 1, 2, 0, 0, 0, 0, []),
  (49, .invokevirtual 291, 3, 31, 3, 3, 1, 3, [111]),
  (52, .istore 4, 2, 4, 0, 0, 0, 0, []),
  (54, .iload_n 3, 1, 3, 0, 0, 0, 0, []),
  (55, .ifCond .ne 6, 3, 61, 0, 0, 0, 0, []),
  (58, .iload 4, 2, 4, 0, 0, 0, 0, []),
  (60, .ireturn, 1, 0, 0, 0, 0, 0, []),
  (61, .iload 4, 2, 4, 0, 0, 0, 0, []),
  (63, .ifCond .lt 8, 3, 71, 0, 0, 0, 0, []),
  (66, .bipush (-2), 2, 0, 0, 0, 0, (-2), []),
  (68, .goto 12, 3, 80, 0, 0, 0, 0, []),
  (71, .aload_n 0, 1, 0, 0, 0, 0, 0, []),
  (72, .getfield 46, 3, 8, 11, 2, 3, 35, [85]),
  (75, .iload_n 1, 1, 1, 0, 0, 0, 0, []),
  (76, .iload_n 2, 1, 2, 0, 0, 0, 0, []),
  (77, .invokevirtual 294, 3, 33, 3, 4, 1, 3, [112]),
  (80, .ireturn, 1, 0, 0, 0, 0, 0, [])]
abbrev kRS_alike : Nat := 110
def cRS_alike : List xE := [(0, .aload_n 0, 1, 0, 0, 0, 0, 0, []),
  (1, .invokevirtual 208, 3, 133, 1, 1, 0, 8, [96]),
  (4, .aload_n 0, 1, 0, 0, 0, 0, 0, []),
  (5, .getfield 46, 3, 8, 11, 2, 3, 35, [85]),
  (8, .iload_n 1, 1, 1, 0, 0, 0, 0, []),
  (9, .invokevirtual 266, 3, 24, 2, 2, 1, 3, [107]),
  (12, .ifCond .eq 35, 3, 47, 0, 0, 0, 0, []),
  (15, .aload_n 0, 1, 0, 0, 0, 0, 0, []),
  (16, .getfield 46, 3, 8, 11, 2, 3, 35, [85]),
  (19, .iload_n 2, 1, 2, 0, 0, 0, 0, []),
  (20, .invokevirtual 266, 3, 24, 2, 2, 1, 3, [107]),
  (23, .ifCond .eq 24, 3, 47, 0, 0, 0, 0, []),
  (26, .aload_n 0, 1, 0, 0, 0, 0, 0, []),
  (27, .getfield 46, 3, 8, 11, 2, 3, 35, [85]),
  (30, .getfield 275, 3, 3, 2, 3, 901, 2, [111]),
  (33, .iload_n 1, 1, 1, 0, 0, 0, 0, []),
  (34, .iaload, 1, 0, 0, 0, 0, 0, []),
  (35, .aload_n 0, 1, 0, 0, 0, 0, 0, []),
  (36, .getfield 46, 3, 8, 11, 2, 3, 35, [85]),
  (39, .getfield 275, 3, 3, 2, 3, 901, 2, [111]),
  (42, .iload_n 2, 1, 2, 0, 0, 0, 0, []),
  (43, .iaload, 1, 0, 0, 0, 0, 0, []),
  (44, .if_icmp .eq 5, 3, 49, 0, 0, 0, 0, []),
  (47, .iconst (-1), 1, 0, 0, 0, 0, (-1), []),
  (48, .ireturn, 1, 0, 0, 0, 0, 0, []),
  (49, .aload_n 0, 1, 0, 0, 0, 0, 0, []),
  (50, .invokevirtual 297, 3, 134, 1, 1, 0, 8, [113]),
  (53, .aload_n 0, 1, 0, 0, 0, 0, 0, []),
  (54, .getfield 56, 3, 8, 13, 2, 2, 65, [87]),
  (57, .getfield 300, 3, 2, 0, 3, 901, 1, [114]),
  (60, .iload_n 1, 1, 1, 0, 0, 0, 0, []),
  (61, .iaload, 1, 0, 0, 0, 0, 0, []),
  (62, .aload_n 0, 1, 0, 0, 0, 0, 0, []),
  (63, .getfield 56, 3, 8, 13, 2, 2, 65, [87]),
  (66, .getfield 300, 3, 2, 0, 3, 901, 1, [114]),
  (69, .iload_n 2, 1, 2, 0, 0, 0, 0, []),
  (70, .iaload, 1, 0, 0, 0, 0, 0, []),
  (71, .if_icmp .ne 7, 3, 78, 0, 0, 0, 0, []),
  (74, .iconst 1, 1, 0, 0, 0, 0, 1, []),
  (75, .goto 4, 3, 79, 0, 0, 0, 0, []),
  (78, .iconst 0, 1, 0, 0, 0, 0, 0, []),
  (79, .ireturn, 1, 0, 0, 0, 0, 0, [])]
abbrev kRS_level : Nat := 111
def cRS_level : List xE := [(0, .iload_n 1, 1, 1, 0, 0, 0, 0, []),
  (1, .ifCond .lt 14, 3, 15, 0, 0, 0, 0, []),
  (4, .iload_n 1, 1, 1, 0, 0, 0, 0, []),
  (5, .aload_n 0, 1, 0, 0, 0, 0, 0, []),
  (6, .getfield 19, 3, 8, 1, 2, 6, 3, [79]),
  (9, .getfield 168, 3, 6, 6, 0, 0, 0, [96]),
  (12, .if_icmp .lt 5, 3, 17, 0, 0, 0, 0, []),
  (15, .iconst (-1), 1, 0, 0, 0, 0, (-1), []),
  (16, .ireturn, 1, 0, 0, 0, 0, 0, []),
  (17, .aload_n 0, 1, 0, 0, 0, 0, 0, []),
  (18, .invokevirtual 208, 3, 133, 1, 1, 0, 8, [96]),
  (21, .iload_n 2, 1, 2, 0, 0, 0, 0, []),
  (22, .tableswitch 110 0 3 #[30, 40, 58, 82], 30, 132, 0, 0, 0, 0, [52, 62, 80, 104]),
  (52, .aload_n 0, 1, 0, 0, 0, 0, 0, []),
  (53, .getfield 19, 3, 8, 1, 2, 6, 3, [79]),
  (56, .getfield 303, 3, 6, 7, 3, 16, 6, [115]),
  (59, .iload_n 1, 1, 1, 0, 0, 0, 0, []),
  (60, .iaload, 1, 0, 0, 0, 0, 0, []),
  (61, .ireturn, 1, 0, 0, 0, 0, 0, []),
  (62, .aload_n 0, 1, 0, 0, 0, 0, 0, []),
  (63, .getfield 46, 3, 8, 11, 2, 3, 35, [85]),
  (66, .iload_n 1, 1, 1, 0, 0, 0, 0, []),
  (67, .invokevirtual 306, 3, 26, 2, 2, 1, 3, [114]),
  (70, .aload_n 0, 1, 0, 0, 0, 0, 0, []),
  (71, .getfield 46, 3, 8, 11, 2, 3, 35, [85]),
  (74, .iload_n 1, 1, 1, 0, 0, 0, 0, []),
  (75, .invokevirtual 309, 3, 25, 2, 2, 1, 3, [115]),
  (78, .isub, 1, 0, 0, 0, 0, 0, []),
  (79, .ireturn, 1, 0, 0, 0, 0, 0, []),
  (80, .aload_n 0, 1, 0, 0, 0, 0, 0, []),
  (81, .getfield 46, 3, 8, 11, 2, 3, 35, [85]),
  (84, .aload_n 0, 1, 0, 0, 0, 0, 0, []),
  (85, .getfield 46, 3, 8, 11, 2, 3, 35, [85]),
  (88, .iload_n 1, 1, 1, 0, 0, 0, 0, []),
  (89, .invokevirtual 309, 3, 25, 2, 2, 1, 3, [115]),
  (92, .aload_n 0, 1, 0, 0, 0, 0, 0, []),
  (93, .getfield 46, 3, 8, 11, 2, 3, 35, [85]),
  (96, .iload_n 1, 1, 1, 0, 0, 0, 0, []),
  (97, .invokevirtual 306, 3, 26, 2, 2, 1, 3, [114]),
  (100, .invokevirtual 312, 3, 30, 3, 3, 1, 3, [116]),
  (103, .ireturn, 1, 0, 0, 0, 0, 0, []),
  (104, .aload_n 0, 1, 0, 0, 0, 0, 0, []),
  (105, .invokevirtual 297, 3, 134, 1, 1, 0, 8, [113]),
  (108, .aload_n 0, 1, 0, 0, 0, 0, 0, []),
  (109, .getfield 56, 3, 8, 13, 2, 2, 65, [87]),
  (112, .aload_n 0, 1, 0, 0, 0, 0, 0, []),
  (113, .getfield 46, 3, 8, 11, 2, 3, 35, [85]),
  (116, .iload_n 1, 1, 1, 0, 0, 0, 0, []),
  (117, .invokevirtual 309, 3, 25, 2, 2, 1, 3, [115]),
  (120, .aload_n 0, 1, 0, 0, 0, 0, 0, []),
  (121, .getfield 46, 3, 8, 11, 2, 3, 35, [85]),
  (124, .iload_n 1, 1, 1, 0, 0, 0, 0, []),
  (125, .invokevirtual 306, 3, 26, 2, 2, 1, 3, [114]),
  (128, .invokevirtual 315, 3, 19, 3, 5, 1, 2, [117]),
  (131, .ireturn, 1, 0, 0, 0, 0, 0, []),
  (132, .iconst (-1), 1, 0, 0, 0, 0, (-1), []),
  (133, .ireturn, 1, 0, 0, 0, 0, 0, [])]
abbrev kRS_span : Nat := 112
def cRS_span : List xE := [(0, .aload_n 0, 1, 0, 0, 0, 0, 0, []),
  (1, .invokevirtual 231, 3, 132, 1, 1, 0, 8, [102]),
  (4, .iload_n 1, 1, 1, 0, 0, 0, 0, []),
  (5, .ifCond .lt 14, 3, 19, 0, 0, 0, 0, []),
  (8, .iload_n 1, 1, 1, 0, 0, 0, 0, []),
  (9, .aload_n 0, 1, 0, 0, 0, 0, 0, []),
  (10, .getfield 36, 3, 8, 9, 2, 5, 19, [83]),
  (13, .getfield 318, 3, 5, 0, 0, 0, 0, [116]),
  (16, .if_icmp .lt 7, 3, 23, 0, 0, 0, 0, []),
  (19, .ldc2_w 261, 3, 0, 0, 0, 0, (-2), [12]),
  (22, .lreturn, 1, 0, 0, 0, 0, 0, []),
  (23, .iload_n 2, 1, 2, 0, 0, 0, 0, []),
  (24, .tableswitch 59 0 2 #[28, 38, 48], 28, 83, 0, 0, 0, 0, [52, 62, 72]),
  (52, .aload_n 0, 1, 0, 0, 0, 0, 0, []),
  (53, .getfield 36, 3, 8, 9, 2, 5, 19, [83]),
  (56, .getfield 319, 3, 5, 1, 4, 121, 1, [117]),
  (59, .iload_n 1, 1, 1, 0, 0, 0, 0, []),
  (60, .laload, 1, 0, 0, 0, 0, 0, []),
  (61, .lreturn, 1, 0, 0, 0, 0, 0, []),
  (62, .aload_n 0, 1, 0, 0, 0, 0, 0, []),
  (63, .getfield 36, 3, 8, 9, 2, 5, 19, [83]),
  (66, .getfield 322, 3, 5, 2, 4, 121, 2, [118]),
  (69, .iload_n 1, 1, 1, 0, 0, 0, 0, []),
  (70, .laload, 1, 0, 0, 0, 0, 0, []),
  (71, .lreturn, 1, 0, 0, 0, 0, 0, []),
  (72, .aload_n 0, 1, 0, 0, 0, 0, 0, []),
  (73, .getfield 36, 3, 8, 9, 2, 5, 19, [83]),
  (76, .getfield 325, 3, 5, 3, 3, 121, 3, [119]),
  (79, .iload_n 1, 1, 1, 0, 0, 0, 0, []),
  (80, .iaload, 1, 0, 0, 0, 0, 0, []),
  (81, .i2l, 1, 0, 0, 0, 0, 0, []),
  (82, .lreturn, 1, 0, 0, 0, 0, 0, []),
  (83, .ldc2_w 261, 3, 0, 0, 0, 0, (-2), [12]),
  (86, .lreturn, 1, 0, 0, 0, 0, 0, [])]
abbrev kRS_cover : Nat := 113
def cRS_cover : List xE := [(0, .iload_n 1, 1, 1, 0, 0, 0, 0, []),
  (1, .invokestatic 125, 3, 119, 1, 1, 1, 0, [80]),
  (4, .iload_n 2, 1, 2, 0, 0, 0, 0, []),
  (5, .invokestatic 125, 3, 119, 1, 1, 1, 0, [80]),
  (8, .lcmp, 4, 16, 5, 0, 0, 0, []),
  (12, .ldc2_w 261, 3, 0, 0, 0, 0, (-2), [12]),
  (15, .lreturn, 1, 0, 0, 0, 0, 0, []),
  (16, .aload_n 0, 1, 0, 0, 0, 0, 0, []),
  (17, .getfield 77, 3, 8, 16, 2, 4, 111, [90]),
  (20, .iload_n 1, 1, 1, 0, 0, 0, 0, []),
  (21, .invokestatic 125, 3, 119, 1, 1, 1, 0, [80]),
  (24, .iload_n 2, 1, 2, 0, 0, 0, 0, []),
  (25, .invokestatic 125, 3, 119, 1, 1, 1, 0, [80]),
  (28, .invokevirtual 140, 3, 42, 3, 8, 0, 4, [84]),
  (31, .iload_n 3, 1, 3, 0, 0, 0, 0, []),
  (32, .iconst (-1), 1, 0, 0, 0, 0, (-1), []),
  (33, .if_icmp .ne 17, 3, 50, 0, 0, 0, 0, []),
  (36, .iload 4, 2, 4, 0, 0, 0, 0, []),
  (38, .ifCond .ne 12, 3, 50, 0, 0, 0, 0, []),
  (41, .aload_n 0, 1, 0, 0, 0, 0, 0, []),
  (42, .getfield 77, 3, 8, 16, 2, 4, 111, [90]),
  (45, .getfield 144, 3, 4, 0, 0, 0, 0, [93]),
  (48, .i2l, 1, 0, 0, 0, 0, 0, []),
  (49, .lreturn, 1, 0, 0, 0, 0, 0, []),
  (50, .aload_n 0, 1, 0, 0, 0, 0, 0, []),
  (51, .getfield 77, 3, 8, 16, 2, 4, 111, [90]),
  (54, .iload_n 3, 1, 3, 0, 0, 0, 0, []),
  (55, .iload 4, 2, 4, 0, 0, 0, 0, []),
  (57, .invokevirtual 326, 3, 44, 3, 3, 1, 4, [118]),
  (60, .lreturn, 1, 0, 0, 0, 0, 0, [])]
abbrev kRS_own : Nat := 114
def cRS_own : List xE := [(0, .iload_n 1, 1, 1, 0, 0, 0, 0, []),
  (1, .iconst (-1), 1, 0, 0, 0, 0, (-1), []),
  (2, .if_icmp .eq 14, 3, 16, 0, 0, 0, 0, []),
  (5, .aload_n 0, 1, 0, 0, 0, 0, 0, []),
  (6, .getfield 19, 3, 8, 1, 2, 6, 3, [79]),
  (9, .iload_n 1, 1, 1, 0, 0, 0, 0, []),
  (10, .invokevirtual 252, 3, 62, 2, 2, 1, 6, [105]),
  (13, .ifCond .eq 8, 3, 21, 0, 0, 0, 0, []),
  (16, .iload_n 2, 1, 2, 0, 0, 0, 0, []),
  (17, .iconst (-1), 1, 0, 0, 0, 0, (-1), []),
  (18, .if_icmp .ge 7, 3, 25, 0, 0, 0, 0, []),
  (21, .ldc2_w 261, 3, 0, 0, 0, 0, (-2), [12]),
  (24, .lreturn, 1, 0, 0, 0, 0, 0, []),
  (25, .aload_n 0, 1, 0, 0, 0, 0, 0, []),
  (26, .invokevirtual 231, 3, 132, 1, 1, 0, 8, [102]),
  (29, .iconst 0, 1, 0, 0, 0, 0, 0, []),
  (30, .istore 4, 2, 4, 0, 0, 0, 0, []),
  (32, .iconst 0, 1, 0, 0, 0, 0, 0, []),
  (33, .istore 5, 2, 5, 0, 0, 0, 0, []),
  (35, .iload 5, 2, 5, 0, 0, 0, 0, []),
  (37, .aload_n 0, 1, 0, 0, 0, 0, 0, []),
  (38, .getfield 36, 3, 8, 9, 2, 5, 19, [83]),
  (41, .getfield 318, 3, 5, 0, 0, 0, 0, [116]),
  (44, .if_icmp .ge 98, 3, 142, 0, 0, 0, 0, []),
  (47, .aload_n 0, 1, 0, 0, 0, 0, 0, []),
  (48, .getfield 36, 3, 8, 9, 2, 5, 19, [83]),
  (51, .getfield 325, 3, 5, 3, 3, 121, 3, [119]),
  (54, .iload 5, 2, 5, 0, 0, 0, 0, []),
  (56, .iaload, 1, 0, 0, 0, 0, 0, []),
  (57, .iload_n 1, 1, 1, 0, 0, 0, 0, []),
  (58, .if_icmp .eq 6, 3, 64, 0, 0, 0, 0, []),
  (61, .goto 75, 3, 136, 0, 0, 0, 0, []),
  (64, .aload_n 0, 1, 0, 0, 0, 0, 0, []),
  (65, .getfield 77, 3, 8, 16, 2, 4, 111, [90]),
  (68, .aload_n 0, 1, 0, 0, 0, 0, 0, []),
  (69, .getfield 36, 3, 8, 9, 2, 5, 19, [83]),
  (72, .getfield 319, 3, 5, 1, 4, 121, 1, [117]),
  (75, .iload 5, 2, 5, 0, 0, 0, 0, []),
  (77, .laload, 1, 0, 0, 0, 0, 0, []),
  (78, .aload_n 0, 1, 0, 0, 0, 0, 0, []),
  (79, .getfield 36, 3, 8, 9, 2, 5, 19, [83]),
  (82, .getfield 322, 3, 5, 2, 4, 121, 2, [118]),
  (85, .iload 5, 2, 5, 0, 0, 0, 0, []),
  (87, .laload, 1, 0, 0, 0, 0, 0, []),
  (88, .invokevirtual 140, 3, 42, 3, 8, 0, 4, [84]),
  (91, .iload_n 2, 1, 2, 0, 0, 0, 0, []),
  (92, .iload 4, 2, 4, 0, 0, 0, 0, []),
  (94, .if_icmp .lt 30, 3, 124, 0, 0, 0, 0, []),
  (97, .iload_n 2, 1, 2, 0, 0, 0, 0, []),
  (98, .iload 4, 2, 4, 0, 0, 0, 0, []),
  (100, .isub, 1, 0, 0, 0, 0, 0, []),
  (101, .aload_n 0, 1, 0, 0, 0, 0, 0, []),
  (102, .getfield 77, 3, 8, 16, 2, 4, 111, [90]),
  (105, .getfield 144, 3, 4, 0, 0, 0, 0, [93]),
  (108, .if_icmp .ge 16, 3, 124, 0, 0, 0, 0, []),
  (111, .aload_n 0, 1, 0, 0, 0, 0, 0, []),
  (112, .getfield 77, 3, 8, 16, 2, 4, 111, [90]),
  (115, .iload_n 2, 1, 2, 0, 0, 0, 0, []),
  (116, .iload 4, 2, 4, 0, 0, 0, 0, []),
  (118, .isub, 1, 0, 0, 0, 0, 0, []),
  (119, .iload_n 3, 1, 3, 0, 0, 0, 0, []),
  (120, .invokevirtual 326, 3, 44, 3, 3, 1, 4, [118]),
  (123, .lreturn, 1, 0, 0, 0, 0, 0, []),
  (124, .iload 4, 2, 4, 0, 0, 0, 0, []),
  (126, .aload_n 0, 1, 0, 0, 0, 0, 0, []),
  (127, .getfield 77, 3, 8, 16, 2, 4, 111, [90]),
  (130, .getfield 144, 3, 4, 0, 0, 0, 0, [93]),
  (133, .iadd, 1, 0, 0, 0, 0, 0, []),
  (134, .istore 4, 2, 4, 0, 0, 0, 0, []),
  (136, .iinc 5 1, 3, 5, 0, 0, 0, 1, []),
  (139, .goto (-104), 3, 35, 0, 0, 0, 0, []),
  (142, .iload_n 2, 1, 2, 0, 0, 0, 0, []),
  (143, .iconst (-1), 1, 0, 0, 0, 0, (-1), []),
  (144, .if_icmp .ne 13, 3, 157, 0, 0, 0, 0, []),
  (147, .iload_n 3, 1, 3, 0, 0, 0, 0, []),
  (148, .ifCond .ne 9, 3, 157, 0, 0, 0, 0, []),
  (151, .iload 4, 2, 4, 0, 0, 0, 0, []),
  (153, .i2l, 1, 0, 0, 0, 0, 0, []),
  (154, .goto 6, 3, 160, 0, 0, 0, 0, []),
  (157, .ldc2_w 261, 3, 0, 0, 0, 0, (-2), [12]),
  (160, .lreturn, 1, 0, 0, 0, 0, 0, [])]
abbrev kRS_best : Nat := 115
def cRS_best : List xE := [(0, .iload_n 1, 1, 1, 0, 0, 0, 0, []),
  (1, .bipush 6, 2, 0, 0, 0, 0, 6, []),
  (3, .if_icmp .lt 18, 3, 21, 0, 0, 0, 0, []),
  (6, .iload_n 1, 1, 1, 0, 0, 0, 0, []),
  (7, .bipush 16, 2, 0, 0, 0, 0, 16, []),
  (9, .if_icmp .gt 12, 3, 21, 0, 0, 0, 0, []),
  (12, .iload_n 2, 1, 2, 0, 0, 0, 0, []),
  (13, .ifCond .eq 12, 3, 25, 0, 0, 0, 0, []),
  (16, .iload_n 2, 1, 2, 0, 0, 0, 0, []),
  (17, .iconst 1, 1, 0, 0, 0, 0, 1, []),
  (18, .if_icmp .eq 7, 3, 25, 0, 0, 0, 0, []),
  (21, .ldc2_w 229, 3, 0, 0, 0, 0, (-1), [11]),
  (24, .lreturn, 1, 0, 0, 0, 0, 0, []),
  (25, .aload_n 0, 1, 0, 0, 0, 0, 0, []),
  (26, .invokevirtual 330, 3, 136, 1, 1, 0, 8, [119]),
  (29, .aload_n 0, 1, 0, 0, 0, 0, 0, []),
  (30, .getfield 70, 3, 8, 15, 2, 0, 75, [89]),
  (33, .iload_n 1, 1, 1, 0, 0, 0, 0, []),
  (34, .invokevirtual 333, 3, 6, 2, 4, 1, 0, [120]),
  (37, .istore_n 3, 1, 3, 0, 0, 0, 0, []),
  (38, .iload_n 2, 1, 2, 0, 0, 0, 0, []),
  (39, .ifCond .ne 14, 3, 53, 0, 0, 0, 0, []),
  (42, .aload_n 0, 1, 0, 0, 0, 0, 0, []),
  (43, .getfield 70, 3, 8, 15, 2, 0, 75, [89]),
  (46, .iload_n 3, 1, 3, 0, 0, 0, 0, []),
  (47, .invokevirtual 336, 3, 5, 2, 2, 1, 0, [121]),
  (50, .goto 11, 3, 61, 0, 0, 0, 0, []),
  (53, .aload_n 0, 1, 0, 0, 0, 0, 0, []),
  (54, .getfield 70, 3, 8, 15, 2, 0, 75, [89]),
  (57, .iload_n 3, 1, 3, 0, 0, 0, 0, []),
  (58, .invokevirtual 339, 3, 7, 2, 7, 1, 0, [122]),
  (61, .lreturn, 1, 0, 0, 0, 0, 0, [])]
abbrev kRS_fewest : Nat := 116
def cRS_fewest : List xE := [(0, .aload_n 0, 1, 0, 0, 0, 0, 0, []),
  (1, .invokevirtual 171, 3, 135, 1, 1, 0, 8, [89]),
  (4, .iload_n 1, 1, 1, 0, 0, 0, 0, []),
  (5, .iconst (-1), 1, 0, 0, 0, 0, (-1), []),
  (6, .if_icmp .ne 16, 3, 22, 0, 0, 0, 0, []),
  (9, .iload_n 2, 1, 2, 0, 0, 0, 0, []),
  (10, .ifCond .ne 12, 3, 22, 0, 0, 0, 0, []),
  (13, .aload_n 0, 1, 0, 0, 0, 0, 0, []),
  (14, .getfield 63, 3, 8, 14, 2, 1, 69, [88]),
  (17, .getfield 342, 3, 1, 0, 0, 0, 0, [120]),
  (20, .i2l, 1, 0, 0, 0, 0, 0, []),
  (21, .lreturn, 1, 0, 0, 0, 0, 0, []),
  (22, .iload_n 1, 1, 1, 0, 0, 0, 0, []),
  (23, .ifCond .lt 14, 3, 37, 0, 0, 0, 0, []),
  (26, .iload_n 1, 1, 1, 0, 0, 0, 0, []),
  (27, .aload_n 0, 1, 0, 0, 0, 0, 0, []),
  (28, .getfield 63, 3, 8, 14, 2, 1, 69, [88]),
  (31, .getfield 342, 3, 1, 0, 0, 0, 0, [120]),
  (34, .if_icmp .lt 7, 3, 41, 0, 0, 0, 0, []),
  (37, .ldc2_w 261, 3, 0, 0, 0, 0, (-2), [12]),
  (40, .lreturn, 1, 0, 0, 0, 0, 0, []),
  (41, .iload_n 2, 1, 2, 0, 0, 0, 0, []),
  (42, .tableswitch 58 0 2 #[26, 37, 47], 26, 100, 0, 0, 0, 0, [68, 79, 89]),
  (68, .aload_n 0, 1, 0, 0, 0, 0, 0, []),
  (69, .getfield 63, 3, 8, 14, 2, 1, 69, [88]),
  (72, .getfield 343, 3, 1, 2, 3, 60, 2, [121]),
  (75, .iload_n 1, 1, 1, 0, 0, 0, 0, []),
  (76, .iaload, 1, 0, 0, 0, 0, 0, []),
  (77, .i2l, 1, 0, 0, 0, 0, 0, []),
  (78, .lreturn, 1, 0, 0, 0, 0, 0, []),
  (79, .aload_n 0, 1, 0, 0, 0, 0, 0, []),
  (80, .getfield 63, 3, 8, 14, 2, 1, 69, [88]),
  (83, .getfield 344, 3, 1, 1, 4, 60, 1, [122]),
  (86, .iload_n 1, 1, 1, 0, 0, 0, 0, []),
  (87, .laload, 1, 0, 0, 0, 0, 0, []),
  (88, .lreturn, 1, 0, 0, 0, 0, 0, []),
  (89, .aload_n 0, 1, 0, 0, 0, 0, 0, []),
  (90, .getfield 63, 3, 8, 14, 2, 1, 69, [88]),
  (93, .getfield 345, 3, 1, 3, 3, 60, 3, [123]),
  (96, .iload_n 1, 1, 1, 0, 0, 0, 0, []),
  (97, .iaload, 1, 0, 0, 0, 0, 0, []),
  (98, .i2l, 1, 0, 0, 0, 0, 0, []),
  (99, .lreturn, 1, 0, 0, 0, 0, 0, []),
  (100, .ldc2_w 261, 3, 0, 0, 0, 0, (-2), [12]),
  (103, .lreturn, 1, 0, 0, 0, 0, 0, [])]
abbrev kRS_steps : Nat := 117
def cRS_steps : List xE := [(0, .aload_n 0, 1, 0, 0, 0, 0, 0, []),
  (1, .invokevirtual 208, 3, 133, 1, 1, 0, 8, [96]),
  (4, .aload_n 0, 1, 0, 0, 0, 0, 0, []),
  (5, .getfield 46, 3, 8, 11, 2, 3, 35, [85]),
  (8, .invokevirtual 346, 3, 38, 1, 4, 1, 3, [123]),
  (11, .invokestatic 350, 3, 137, 1, 7, 1, 0, [124]),
  (14, .lreturn, 1, 0, 0, 0, 0, 0, [])]
abbrev kRS_count : Nat := 118
def cRS_count : List xE := [(0, .iload_n 1, 1, 1, 0, 0, 0, 0, []),
  (1, .tableswitch 209 0 12 #[67, 75, 83, 91, 103, 123, 143, 155, 174, 179, 184, 192, 197], 67, 210, 0, 0, 0, 0, [68, 76, 84, 92, 104, 124, 144, 156, 175, 180, 185, 193, 198]),
  (68, .aload_n 0, 1, 0, 0, 0, 0, 0, []),
  (69, .getfield 19, 3, 8, 1, 2, 6, 3, [79]),
  (72, .getfield 104, 3, 6, 0, 0, 0, 0, [92]),
  (75, .ireturn, 1, 0, 0, 0, 0, 0, []),
  (76, .aload_n 0, 1, 0, 0, 0, 0, 0, []),
  (77, .getfield 19, 3, 8, 1, 2, 6, 3, [79]),
  (80, .invokevirtual 354, 3, 63, 1, 3, 1, 6, [125]),
  (83, .ireturn, 1, 0, 0, 0, 0, 0, []),
  (84, .aload_n 0, 1, 0, 0, 0, 0, 0, []),
  (85, .getfield 19, 3, 8, 1, 2, 6, 3, [79]),
  (88, .getfield 168, 3, 6, 6, 0, 0, 0, [96]),
  (91, .ireturn, 1, 0, 0, 0, 0, 0, []),
  (92, .aload_n 0, 1, 0, 0, 0, 0, 0, []),
  (93, .invokevirtual 208, 3, 133, 1, 1, 0, 8, [96]),
  (96, .aload_n 0, 1, 0, 0, 0, 0, 0, []),
  (97, .getfield 46, 3, 8, 11, 2, 3, 35, [85]),
  (100, .getfield 358, 3, 3, 0, 0, 0, 0, [124]),
  (103, .ireturn, 1, 0, 0, 0, 0, 0, []),
  (104, .aload_n 0, 1, 0, 0, 0, 0, 0, []),
  (105, .invokevirtual 297, 3, 134, 1, 1, 0, 8, [113]),
  (108, .aload_n 0, 1, 0, 0, 0, 0, 0, []),
  (109, .getfield 56, 3, 8, 13, 2, 2, 65, [87]),
  (112, .iconst 0, 1, 0, 0, 0, 0, 0, []),
  (113, .aload_n 0, 1, 0, 0, 0, 0, 0, []),
  (114, .getfield 46, 3, 8, 11, 2, 3, 35, [85]),
  (117, .getfield 358, 3, 3, 0, 0, 0, 0, [124]),
  (120, .invokevirtual 315, 3, 19, 3, 5, 1, 2, [117]),
  (123, .ireturn, 1, 0, 0, 0, 0, 0, []),
  (124, .aload_n 0, 1, 0, 0, 0, 0, 0, []),
  (125, .invokevirtual 208, 3, 133, 1, 1, 0, 8, [96]),
  (128, .aload_n 0, 1, 0, 0, 0, 0, 0, []),
  (129, .getfield 46, 3, 8, 11, 2, 3, 35, [85]),
  (132, .iconst 0, 1, 0, 0, 0, 0, 0, []),
  (133, .aload_n 0, 1, 0, 0, 0, 0, 0, []),
  (134, .getfield 46, 3, 8, 11, 2, 3, 35, [85]),
  (137, .getfield 358, 3, 3, 0, 0, 0, 0, [124]),
  (140, .invokevirtual 312, 3, 30, 3, 3, 1, 3, [116]),
  (143, .ireturn, 1, 0, 0, 0, 0, 0, []),
  (144, .aload_n 0, 1, 0, 0, 0, 0, 0, []),
  (145, .invokevirtual 231, 3, 132, 1, 1, 0, 8, [102]),
  (148, .aload_n 0, 1, 0, 0, 0, 0, 0, []),
  (149, .getfield 36, 3, 8, 9, 2, 5, 19, [83]),
  (152, .getfield 318, 3, 5, 0, 0, 0, 0, [116]),
  (155, .ireturn, 1, 0, 0, 0, 0, 0, []),
  (156, .aload_n 0, 1, 0, 0, 0, 0, 0, []),
  (157, .invokevirtual 231, 3, 132, 1, 1, 0, 8, [102]),
  (160, .aload_n 0, 1, 0, 0, 0, 0, 0, []),
  (161, .getfield 36, 3, 8, 9, 2, 5, 19, [83]),
  (164, .aload_n 0, 1, 0, 0, 0, 0, 0, []),
  (165, .getfield 19, 3, 8, 1, 2, 6, 3, [79]),
  (168, .getfield 104, 3, 6, 0, 0, 0, 0, [92]),
  (171, .invokevirtual 359, 3, 50, 2, 4, 1, 5, [126]),
  (174, .ireturn, 1, 0, 0, 0, 0, 0, []),
  (175, .aload_n 0, 1, 0, 0, 0, 0, 0, []),
  (176, .invokevirtual 362, 3, 130, 1, 1, 1, 8, [127]),
  (179, .ireturn, 1, 0, 0, 0, 0, 0, []),
  (180, .aload_n 0, 1, 0, 0, 0, 0, 0, []),
  (181, .getfield 185, 3, 8, 5, 0, 0, 0, [97]),
  (184, .ireturn, 1, 0, 0, 0, 0, 0, []),
  (185, .aload_n 0, 1, 0, 0, 0, 0, 0, []),
  (186, .getfield 12, 3, 8, 0, 2, 7, 1, [78]),
  (189, .getfield 89, 3, 7, 0, 0, 0, 0, [91]),
  (192, .ireturn, 1, 0, 0, 0, 0, 0, []),
  (193, .aload_n 0, 1, 0, 0, 0, 0, 0, []),
  (194, .getfield 194, 3, 8, 6, 0, 0, 0, [100]),
  (197, .ireturn, 1, 0, 0, 0, 0, 0, []),
  (198, .aload_n 0, 1, 0, 0, 0, 0, 0, []),
  (199, .invokevirtual 208, 3, 133, 1, 1, 0, 8, [96]),
  (202, .aload_n 0, 1, 0, 0, 0, 0, 0, []),
  (203, .getfield 46, 3, 8, 11, 2, 3, 35, [85]),
  (206, .invokevirtual 365, 3, 37, 1, 1, 1, 3, [128]),
  (209, .ireturn, 1, 0, 0, 0, 0, 0, []),
  (210, .iconst (-1), 1, 0, 0, 0, 0, (-1), []),
  (211, .ireturn, 1, 0, 0, 0, 0, 0, [])]
abbrev kRS_unsigned : Nat := 119
def cRS_unsigned : List xE := [(0, .iload_n 0, 1, 0, 0, 0, 0, 0, []),
  (1, .i2l, 1, 0, 0, 0, 0, 0, []),
  (2, .ldc2_w 368, 3, 0, 0, 0, 0, 4294967295, [13]),
  (5, .land, 1, 0, 0, 0, 0, 0, []),
  (6, .lreturn, 1, 0, 0, 0, 0, 0, [])]
abbrev kRS_widthOf : Nat := 120
def cRS_widthOf : List xE := [(0, .ldc2_w 370, 3, 0, 0, 0, 0, 4294967296, [14]),
  (3, .iload_n 0, 1, 0, 0, 0, 0, 0, []),
  (4, .lshr, 1, 0, 0, 0, 0, 0, []),
  (5, .lreturn, 1, 0, 0, 0, 0, 0, [])]
abbrev kRS_isBeginning : Nat := 121
def cRS_isBeginning : List xE := [(0, .iload_n 1, 1, 1, 0, 0, 0, 0, []),
  (1, .ifCond .lt 29, 3, 30, 0, 0, 0, 0, []),
  (4, .iload_n 1, 1, 1, 0, 0, 0, 0, []),
  (5, .bipush 32, 2, 0, 0, 0, 0, 32, []),
  (7, .if_icmp .gt 23, 3, 30, 0, 0, 0, 0, []),
  (10, .iload_n 0, 1, 0, 0, 0, 0, 0, []),
  (11, .invokestatic 125, 3, 119, 1, 1, 1, 0, [80]),
  (14, .iload_n 1, 1, 1, 0, 0, 0, 0, []),
  (15, .invokestatic 226, 3, 120, 1, 1, 1, 0, [101]),
  (18, .lconst 1, 1, 0, 0, 0, 0, 1, []),
  (19, .lsub, 1, 0, 0, 0, 0, 0, []),
  (20, .land, 1, 0, 0, 0, 0, 0, []),
  (21, .lconst 0, 1, 0, 0, 0, 0, 0, []),
  (22, .lcmp, 4, 30, 1, 0, 0, 0, []),
  (26, .iconst 1, 1, 0, 0, 0, 0, 1, []),
  (27, .goto 4, 3, 31, 0, 0, 0, 0, []),
  (30, .iconst 0, 1, 0, 0, 0, 0, 0, []),
  (31, .ireturn, 1, 1, 0, 0, 0, 0, [])]
abbrev kRS_isWay : Nat := 122
def cRS_isWay : List xE := [(0, .iload_n 0, 1, 0, 0, 0, 0, 0, []),
  (1, .ifCond .lt 23, 3, 24, 0, 0, 0, 0, []),
  (4, .iload_n 0, 1, 0, 0, 0, 0, 0, []),
  (5, .bipush 99, 2, 0, 0, 0, 0, 99, []),
  (7, .if_icmp .gt 17, 3, 24, 0, 0, 0, 0, []),
  (10, .iload_n 1, 1, 1, 0, 0, 0, 0, []),
  (11, .ifCond .lt 13, 3, 24, 0, 0, 0, 0, []),
  (14, .iload_n 1, 1, 1, 0, 0, 0, 0, []),
  (15, .bipush 9, 2, 0, 0, 0, 0, 9, []),
  (17, .if_icmp .gt 7, 3, 24, 0, 0, 0, 0, []),
  (20, .iconst 1, 1, 0, 0, 0, 0, 1, []),
  (21, .goto 4, 3, 25, 0, 0, 0, 0, []),
  (24, .iconst 0, 1, 0, 0, 0, 0, 0, []),
  (25, .ireturn, 1, 1, 0, 0, 0, 0, [])]
abbrev kRS_keyOf : Nat := 123
def cRS_keyOf : List xE := [(0, .iload_n 0, 1, 0, 0, 0, 0, 0, []),
  (1, .bipush 10, 2, 0, 0, 0, 0, 10, []),
  (3, .imul, 1, 0, 0, 0, 0, 0, []),
  (4, .iload_n 1, 1, 1, 0, 0, 0, 0, []),
  (5, .iadd, 1, 0, 0, 0, 0, 0, []),
  (6, .ireturn, 1, 0, 0, 0, 0, 0, [])]
abbrev kRS_stateOf : Nat := 124
def cRS_stateOf : List xE := [(0, .aload_n 0, 1, 0, 0, 0, 0, 0, []),
  (1, .getfield 19, 3, 8, 1, 2, 6, 3, [79]),
  (4, .iload_n 1, 1, 1, 0, 0, 0, 0, []),
  (5, .invokestatic 125, 3, 119, 1, 1, 1, 0, [80]),
  (8, .iload_n 2, 1, 2, 0, 0, 0, 0, []),
  (9, .invokevirtual 133, 3, 61, 3, 5, 1, 6, [82]),
  (12, .istore 4, 2, 4, 0, 0, 0, 0, []),
  (14, .iload 4, 2, 4, 0, 0, 0, 0, []),
  (16, .ifCond .lt 23, 3, 39, 0, 0, 0, 0, []),
  (19, .aload_n 0, 1, 0, 0, 0, 0, 0, []),
  (20, .getfield 19, 3, 8, 1, 2, 6, 3, [79]),
  (23, .iload 4, 2, 4, 0, 0, 0, 0, []),
  (25, .invokevirtual 153, 3, 64, 2, 3, 1, 6, [85]),
  (28, .iload_n 3, 1, 3, 0, 0, 0, 0, []),
  (29, .if_icmp .ne 8, 3, 37, 0, 0, 0, 0, []),
  (32, .bipush (-2), 2, 0, 0, 0, 0, (-2), []),
  (34, .goto 4, 3, 38, 0, 0, 0, 0, []),
  (37, .iconst 0, 1, 0, 0, 0, 0, 0, []),
  (38, .ireturn, 1, 0, 0, 0, 0, 0, []),
  (39, .aload_n 0, 1, 0, 0, 0, 0, 0, []),
  (40, .getfield 19, 3, 8, 1, 2, 6, 3, [79]),
  (43, .getfield 104, 3, 6, 0, 0, 0, 0, [92]),
  (46, .bipush 60, 2, 0, 0, 0, 0, 60, []),
  (48, .if_icmp .lt 8, 3, 56, 0, 0, 0, 0, []),
  (51, .bipush (-3), 2, 0, 0, 0, 0, (-3), []),
  (53, .goto 4, 3, 57, 0, 0, 0, 0, []),
  (56, .iconst 0, 1, 0, 0, 0, 0, 0, []),
  (57, .ireturn, 1, 0, 0, 0, 0, 0, [])]
abbrev kRS_isKept : Nat := 125
def cRS_isKept : List xE := [(0, .aload_n 0, 1, 0, 0, 0, 0, 0, []),
  (1, .getfield 194, 3, 8, 6, 0, 0, 0, [100]),
  (4, .iconst 1, 1, 0, 0, 0, 0, 1, []),
  (5, .iload_n 1, 1, 1, 0, 0, 0, 0, []),
  (6, .ishl, 1, 0, 0, 0, 0, 0, []),
  (7, .iand, 1, 0, 0, 0, 0, 0, []),
  (8, .ifCond .eq 7, 3, 15, 0, 0, 0, 0, []),
  (11, .iconst 1, 1, 0, 0, 0, 0, 1, []),
  (12, .goto 4, 3, 16, 0, 0, 0, 0, []),
  (15, .iconst 0, 1, 0, 0, 0, 0, 0, []),
  (16, .ireturn, 1, 1, 0, 0, 0, 0, [])]
abbrev kRS_lookAtRules : Nat := 126
def cRS_lookAtRules : List xE := [(0, .iload_n 1, 1, 1, 0, 0, 0, 0, []),
  (1, .ifCond .lt 9, 3, 10, 0, 0, 0, 0, []),
  (4, .iload_n 1, 1, 1, 0, 0, 0, 0, []),
  (5, .bipush 60, 2, 0, 0, 0, 0, 60, []),
  (7, .if_icmp .lt 5, 3, 12, 0, 0, 0, 0, []),
  (10, .iconst (-1), 1, 0, 0, 0, 0, (-1), []),
  (11, .ireturn, 1, 0, 0, 0, 0, 0, []),
  (12, .iload_n 2, 1, 2, 0, 0, 0, 0, []),
  (13, .ifCond .ne 13, 3, 26, 0, 0, 0, 0, []),
  (16, .aload_n 0, 1, 0, 0, 0, 0, 0, []),
  (17, .getfield 19, 3, 8, 1, 2, 6, 3, [79]),
  (20, .getfield 243, 3, 6, 3, 3, 60, 3, [104]),
  (23, .iload_n 1, 1, 1, 0, 0, 0, 0, []),
  (24, .iaload, 1, 0, 0, 0, 0, 0, []),
  (25, .ireturn, 1, 0, 0, 0, 0, 0, []),
  (26, .iload_n 2, 1, 2, 0, 0, 0, 0, []),
  (27, .iconst 1, 1, 0, 0, 0, 0, 1, []),
  (28, .if_icmp .ne 5, 3, 33, 0, 0, 0, 0, []),
  (31, .iload_n 1, 1, 1, 0, 0, 0, 0, []),
  (32, .ireturn, 1, 0, 0, 0, 0, 0, []),
  (33, .aload_n 0, 1, 0, 0, 0, 0, 0, []),
  (34, .invokevirtual 231, 3, 132, 1, 1, 0, 8, [102]),
  (37, .aload_n 0, 1, 0, 0, 0, 0, 0, []),
  (38, .getfield 36, 3, 8, 9, 2, 5, 19, [83]),
  (41, .getfield 249, 3, 5, 6, 3, 60, 6, [106]),
  (44, .iload_n 1, 1, 1, 0, 0, 0, 0, []),
  (45, .iaload, 1, 0, 0, 0, 0, 0, []),
  (46, .istore_n 3, 1, 3, 0, 0, 0, 0, []),
  (47, .iload_n 3, 1, 3, 0, 0, 0, 0, []),
  (48, .ifCond .lt 21, 3, 69, 0, 0, 0, 0, []),
  (51, .iload_n 3, 1, 3, 0, 0, 0, 0, []),
  (52, .bipush 60, 2, 0, 0, 0, 0, 60, []),
  (54, .if_icmp .ge 15, 3, 69, 0, 0, 0, 0, []),
  (57, .aload_n 0, 1, 0, 0, 0, 0, 0, []),
  (58, .getfield 19, 3, 8, 1, 2, 6, 3, [79]),
  (61, .getfield 243, 3, 6, 3, 3, 60, 3, [104]),
  (64, .iload_n 3, 1, 3, 0, 0, 0, 0, []),
  (65, .iaload, 1, 0, 0, 0, 0, 0, []),
  (66, .goto 4, 3, 70, 0, 0, 0, 0, []),
  (69, .iconst (-1), 1, 0, 0, 0, 0, (-1), []),
  (70, .ireturn, 1, 0, 0, 0, 0, 0, [])]
abbrev kRS_beginAct : Nat := 127
def cRS_beginAct : List xE := [(0, .aload_n 0, 1, 0, 0, 0, 0, 0, []),
  (1, .getfield 185, 3, 8, 5, 0, 0, 0, [97]),
  (4, .bipush 10, 2, 0, 0, 0, 0, 10, []),
  (6, .if_icmp .lt 7, 3, 13, 0, 0, 0, 0, []),
  (9, .aload_n 0, 1, 0, 0, 0, 0, 0, []),
  (10, .invokevirtual 372, 3, 128, 1, 3, 0, 8, [129]),
  (13, .aload_n 0, 1, 0, 0, 0, 0, 0, []),
  (14, .getfield 26, 3, 8, 3, 6, 10, 17, [81]),
  (17, .aload_n 0, 1, 0, 0, 0, 0, 0, []),
  (18, .getfield 185, 3, 8, 5, 0, 0, 0, [97]),
  (21, .aaload, 1, 0, 0, 0, 0, 0, []),
  (22, .aload_n 0, 1, 0, 0, 0, 0, 0, []),
  (23, .getfield 19, 3, 8, 1, 2, 6, 3, [79]),
  (26, .invokevirtual 97, 3, 55, 2, 3, 0, 6, [73]),
  (29, .aload_n 0, 1, 0, 0, 0, 0, 0, []),
  (30, .dup, 1, 0, 0, 0, 0, 0, []),
  (31, .getfield 185, 3, 8, 5, 0, 0, 0, [97]),
  (34, .iconst 1, 1, 0, 0, 0, 0, 1, []),
  (35, .iadd, 1, 0, 0, 0, 0, 0, []),
  (36, .putfield 185, 3, 8, 5, 0, 0, 0, [97]),
  (39, .aload_n 0, 1, 0, 0, 0, 0, 0, []),
  (40, .iconst (-1), 1, 0, 0, 0, 0, (-1), []),
  (41, .putfield 188, 3, 8, 7, 0, 0, 0, [98]),
  (44, .aload_n 0, 1, 0, 0, 0, 0, 0, []),
  (45, .iconst 0, 1, 0, 0, 0, 0, 0, []),
  (46, .putfield 191, 3, 8, 8, 0, 0, 0, [99]),
  (49, .return_, 1, 0, 0, 0, 0, 0, [])]
abbrev kRS_dropOldestAct : Nat := 128
def cRS_dropOldestAct : List xE := [(0, .aload_n 0, 1, 0, 0, 0, 0, 0, []),
  (1, .getfield 26, 3, 8, 3, 6, 10, 17, [81]),
  (4, .iconst 0, 1, 0, 0, 0, 0, 0, []),
  (5, .aaload, 1, 0, 0, 0, 0, 0, []),
  (6, .astore_n 1, 1, 1, 0, 0, 0, 0, []),
  (7, .iconst 1, 1, 0, 0, 0, 0, 1, []),
  (8, .istore_n 2, 1, 2, 0, 0, 0, 0, []),
  (9, .iload_n 2, 1, 2, 0, 0, 0, 0, []),
  (10, .bipush 10, 2, 0, 0, 0, 0, 10, []),
  (12, .if_icmp .ge 23, 3, 35, 0, 0, 0, 0, []),
  (15, .aload_n 0, 1, 0, 0, 0, 0, 0, []),
  (16, .getfield 26, 3, 8, 3, 6, 10, 17, [81]),
  (19, .iload_n 2, 1, 2, 0, 0, 0, 0, []),
  (20, .iconst 1, 1, 0, 0, 0, 0, 1, []),
  (21, .isub, 1, 0, 0, 0, 0, 0, []),
  (22, .aload_n 0, 1, 0, 0, 0, 0, 0, []),
  (23, .getfield 26, 3, 8, 3, 6, 10, 17, [81]),
  (26, .iload_n 2, 1, 2, 0, 0, 0, 0, []),
  (27, .aaload, 1, 0, 0, 0, 0, 0, []),
  (28, .aastore, 1, 0, 0, 0, 0, 0, []),
  (29, .iinc 2 1, 3, 2, 0, 0, 0, 1, []),
  (32, .goto (-23), 3, 9, 0, 0, 0, 0, []),
  (35, .aload_n 0, 1, 0, 0, 0, 0, 0, []),
  (36, .getfield 26, 3, 8, 3, 6, 10, 17, [81]),
  (39, .bipush 9, 2, 0, 0, 0, 0, 9, []),
  (41, .aload_n 1, 1, 1, 0, 0, 0, 0, []),
  (42, .aastore, 1, 0, 0, 0, 0, 0, []),
  (43, .aload_n 0, 1, 0, 0, 0, 0, 0, []),
  (44, .bipush 9, 2, 0, 0, 0, 0, 9, []),
  (46, .putfield 185, 3, 8, 5, 0, 0, 0, [97]),
  (49, .return_, 1, 0, 0, 0, 0, 0, [])]
abbrev kRS_forgetActs : Nat := 129
def cRS_forgetActs : List xE := [(0, .aload_n 0, 1, 0, 0, 0, 0, 0, []),
  (1, .iconst 0, 1, 0, 0, 0, 0, 0, []),
  (2, .putfield 185, 3, 8, 5, 0, 0, 0, [97]),
  (5, .aload_n 0, 1, 0, 0, 0, 0, 0, []),
  (6, .iconst 0, 1, 0, 0, 0, 0, 0, []),
  (7, .putfield 188, 3, 8, 7, 0, 0, 0, [98]),
  (10, .aload_n 0, 1, 0, 0, 0, 0, 0, []),
  (11, .iconst 0, 1, 0, 0, 0, 0, 0, []),
  (12, .putfield 191, 3, 8, 8, 0, 0, 0, [99]),
  (15, .return_, 1, 0, 0, 0, 0, 0, [])]
abbrev kRS_touchedByLastAct : Nat := 130
def cRS_touchedByLastAct : List xE := [(0, .aload_n 0, 1, 0, 0, 0, 0, 0, []),
  (1, .getfield 188, 3, 8, 7, 0, 0, 0, [98]),
  (4, .iconst (-1), 1, 0, 0, 0, 0, (-1), []),
  (5, .if_icmp .ne 42, 3, 47, 0, 0, 0, 0, []),
  (8, .aload_n 0, 1, 0, 0, 0, 0, 0, []),
  (9, .getfield 185, 3, 8, 5, 0, 0, 0, [97]),
  (12, .ifCond .le 35, 3, 47, 0, 0, 0, 0, []),
  (15, .aload_n 0, 1, 0, 0, 0, 0, 0, []),
  (16, .getfield 185, 3, 8, 5, 0, 0, 0, [97]),
  (19, .bipush 10, 2, 0, 0, 0, 0, 10, []),
  (21, .if_icmp .gt 26, 3, 47, 0, 0, 0, 0, []),
  (24, .aload_n 0, 1, 0, 0, 0, 0, 0, []),
  (25, .invokevirtual 208, 3, 133, 1, 1, 0, 8, [96]),
  (28, .aload_n 0, 1, 0, 0, 0, 0, 0, []),
  (29, .aload_n 0, 1, 0, 0, 0, 0, 0, []),
  (30, .aload_n 0, 1, 0, 0, 0, 0, 0, []),
  (31, .getfield 26, 3, 8, 3, 6, 10, 17, [81]),
  (34, .aload_n 0, 1, 0, 0, 0, 0, 0, []),
  (35, .getfield 185, 3, 8, 5, 0, 0, 0, [97]),
  (38, .iconst 1, 1, 0, 0, 0, 0, 1, []),
  (39, .isub, 1, 0, 0, 0, 0, 0, []),
  (40, .aaload, 1, 0, 0, 0, 0, 0, []),
  (41, .invokevirtual 220, 3, 131, 2, 2, 1, 8, [99]),
  (44, .putfield 188, 3, 8, 7, 0, 0, 0, [98]),
  (47, .aload_n 0, 1, 0, 0, 0, 0, 0, []),
  (48, .getfield 188, 3, 8, 7, 0, 0, 0, [98]),
  (51, .ireturn, 1, 0, 0, 0, 0, 0, [])]
abbrev kRS_touchedAgainst : Nat := 131
def cRS_touchedAgainst : List xE := [(0, .aload_n 0, 1, 0, 0, 0, 0, 0, []),
  (1, .getfield 40, 3, 8, 10, 2, 5, 27, [84]),
  (4, .aload_n 1, 1, 1, 0, 0, 0, 0, []),
  (5, .invokevirtual 234, 3, 45, 2, 3, 0, 5, [103]),
  (8, .aload_n 0, 1, 0, 0, 0, 0, 0, []),
  (9, .getfield 50, 3, 8, 12, 2, 3, 50, [86]),
  (12, .aload_n 1, 1, 1, 0, 0, 0, 0, []),
  (13, .aload_n 0, 1, 0, 0, 0, 0, 0, []),
  (14, .getfield 40, 3, 8, 10, 2, 5, 27, [84]),
  (17, .invokevirtual 375, 3, 20, 3, 7, 0, 3, [130]),
  (20, .aload_n 0, 1, 0, 0, 0, 0, 0, []),
  (21, .getfield 46, 3, 8, 11, 2, 3, 35, [85]),
  (24, .aload_n 0, 1, 0, 0, 0, 0, 0, []),
  (25, .getfield 50, 3, 8, 12, 2, 3, 50, [86]),
  (28, .invokevirtual 379, 3, 40, 2, 7, 1, 3, [131]),
  (31, .ireturn, 1, 0, 0, 0, 0, 0, [])]
abbrev kRS_seeSpans : Nat := 132
def cRS_seeSpans : List xE := [(0, .aload_n 0, 1, 0, 0, 0, 0, 0, []),
  (1, .getfield 191, 3, 8, 8, 0, 0, 0, [99]),
  (4, .iconst 1, 1, 0, 0, 0, 0, 1, []),
  (5, .iand, 1, 0, 0, 0, 0, 0, []),
  (6, .ifCond .ne 24, 3, 30, 0, 0, 0, 0, []),
  (9, .aload_n 0, 1, 0, 0, 0, 0, 0, []),
  (10, .getfield 36, 3, 8, 9, 2, 5, 19, [83]),
  (13, .aload_n 0, 1, 0, 0, 0, 0, 0, []),
  (14, .getfield 19, 3, 8, 1, 2, 6, 3, [79]),
  (17, .invokevirtual 234, 3, 45, 2, 3, 0, 5, [103]),
  (20, .aload_n 0, 1, 0, 0, 0, 0, 0, []),
  (21, .dup, 1, 0, 0, 0, 0, 0, []),
  (22, .getfield 191, 3, 8, 8, 0, 0, 0, [99]),
  (25, .iconst 1, 1, 0, 0, 0, 0, 1, []),
  (26, .ior, 1, 0, 0, 0, 0, 0, []),
  (27, .putfield 191, 3, 8, 8, 0, 0, 0, [99]),
  (30, .return_, 1, 0, 0, 0, 0, 0, [])]
abbrev kRS_seeNodes : Nat := 133
def cRS_seeNodes : List xE := [(0, .aload_n 0, 1, 0, 0, 0, 0, 0, []),
  (1, .getfield 191, 3, 8, 8, 0, 0, 0, [99]),
  (4, .iconst 2, 1, 0, 0, 0, 0, 2, []),
  (5, .iand, 1, 0, 0, 0, 0, 0, []),
  (6, .ifCond .ne 32, 3, 38, 0, 0, 0, 0, []),
  (9, .aload_n 0, 1, 0, 0, 0, 0, 0, []),
  (10, .invokevirtual 231, 3, 132, 1, 1, 0, 8, [102]),
  (13, .aload_n 0, 1, 0, 0, 0, 0, 0, []),
  (14, .getfield 46, 3, 8, 11, 2, 3, 35, [85]),
  (17, .aload_n 0, 1, 0, 0, 0, 0, 0, []),
  (18, .getfield 19, 3, 8, 1, 2, 6, 3, [79]),
  (21, .aload_n 0, 1, 0, 0, 0, 0, 0, []),
  (22, .getfield 36, 3, 8, 9, 2, 5, 19, [83]),
  (25, .invokevirtual 375, 3, 20, 3, 7, 0, 3, [130]),
  (28, .aload_n 0, 1, 0, 0, 0, 0, 0, []),
  (29, .dup, 1, 0, 0, 0, 0, 0, []),
  (30, .getfield 191, 3, 8, 8, 0, 0, 0, [99]),
  (33, .iconst 2, 1, 0, 0, 0, 0, 2, []),
  (34, .ior, 1, 0, 0, 0, 0, 0, []),
  (35, .putfield 191, 3, 8, 8, 0, 0, 0, [99]),
  (38, .return_, 1, 0, 0, 0, 0, 0, [])]
abbrev kRS_seeKinds : Nat := 134
def cRS_seeKinds : List xE := [(0, .aload_n 0, 1, 0, 0, 0, 0, 0, []),
  (1, .getfield 191, 3, 8, 8, 0, 0, 0, [99]),
  (4, .iconst 4, 1, 0, 0, 0, 0, 4, []),
  (5, .iand, 1, 0, 0, 0, 0, 0, []),
  (6, .ifCond .ne 28, 3, 34, 0, 0, 0, 0, []),
  (9, .aload_n 0, 1, 0, 0, 0, 0, 0, []),
  (10, .invokevirtual 208, 3, 133, 1, 1, 0, 8, [96]),
  (13, .aload_n 0, 1, 0, 0, 0, 0, 0, []),
  (14, .getfield 56, 3, 8, 13, 2, 2, 65, [87]),
  (17, .aload_n 0, 1, 0, 0, 0, 0, 0, []),
  (18, .getfield 46, 3, 8, 11, 2, 3, 35, [85]),
  (21, .invokevirtual 383, 3, 14, 2, 5, 0, 2, [132]),
  (24, .aload_n 0, 1, 0, 0, 0, 0, 0, []),
  (25, .dup, 1, 0, 0, 0, 0, 0, []),
  (26, .getfield 191, 3, 8, 8, 0, 0, 0, [99]),
  (29, .iconst 4, 1, 0, 0, 0, 0, 4, []),
  (30, .ior, 1, 0, 0, 0, 0, 0, []),
  (31, .putfield 191, 3, 8, 8, 0, 0, 0, [99]),
  (34, .return_, 1, 0, 0, 0, 0, 0, [])]
abbrev kRS_seeFewest : Nat := 135
def cRS_seeFewest : List xE := [(0, .aload_n 0, 1, 0, 0, 0, 0, 0, []),
  (1, .getfield 191, 3, 8, 8, 0, 0, 0, [99]),
  (4, .bipush 8, 2, 0, 0, 0, 0, 8, []),
  (6, .iand, 1, 0, 0, 0, 0, 0, []),
  (7, .ifCond .ne 29, 3, 36, 0, 0, 0, 0, []),
  (10, .aload_n 0, 1, 0, 0, 0, 0, 0, []),
  (11, .invokevirtual 231, 3, 132, 1, 1, 0, 8, [102]),
  (14, .aload_n 0, 1, 0, 0, 0, 0, 0, []),
  (15, .getfield 63, 3, 8, 14, 2, 1, 69, [88]),
  (18, .aload_n 0, 1, 0, 0, 0, 0, 0, []),
  (19, .getfield 36, 3, 8, 9, 2, 5, 19, [83]),
  (22, .invokevirtual 386, 3, 8, 2, 2, 0, 1, [133]),
  (25, .aload_n 0, 1, 0, 0, 0, 0, 0, []),
  (26, .dup, 1, 0, 0, 0, 0, 0, []),
  (27, .getfield 191, 3, 8, 8, 0, 0, 0, [99]),
  (30, .bipush 8, 2, 0, 0, 0, 0, 8, []),
  (32, .ior, 1, 0, 0, 0, 0, 0, []),
  (33, .putfield 191, 3, 8, 8, 0, 0, 0, [99]),
  (36, .return_, 1, 0, 0, 0, 0, 0, [])]
abbrev kRS_seeCosts : Nat := 136
def cRS_seeCosts : List xE := [(0, .aload_n 0, 1, 0, 0, 0, 0, 0, []),
  (1, .getfield 191, 3, 8, 8, 0, 0, 0, [99]),
  (4, .bipush 16, 2, 0, 0, 0, 0, 16, []),
  (6, .iand, 1, 0, 0, 0, 0, 0, []),
  (7, .ifCond .ne 29, 3, 36, 0, 0, 0, 0, []),
  (10, .aload_n 0, 1, 0, 0, 0, 0, 0, []),
  (11, .invokevirtual 231, 3, 132, 1, 1, 0, 8, [102]),
  (14, .aload_n 0, 1, 0, 0, 0, 0, 0, []),
  (15, .getfield 70, 3, 8, 15, 2, 0, 75, [89]),
  (18, .aload_n 0, 1, 0, 0, 0, 0, 0, []),
  (19, .getfield 36, 3, 8, 9, 2, 5, 19, [83]),
  (22, .invokevirtual 390, 3, 1, 2, 4, 0, 0, [134]),
  (25, .aload_n 0, 1, 0, 0, 0, 0, 0, []),
  (26, .dup, 1, 0, 0, 0, 0, 0, []),
  (27, .getfield 191, 3, 8, 8, 0, 0, 0, [99]),
  (30, .bipush 16, 2, 0, 0, 0, 0, 16, []),
  (32, .ior, 1, 0, 0, 0, 0, 0, []),
  (33, .putfield 191, 3, 8, 8, 0, 0, 0, [99]),
  (36, .return_, 1, 0, 0, 0, 0, 0, [])]
abbrev kRS_bitsOfMean : Nat := 137
def cRS_bitsOfMean : List xE := [(0, .iconst 0, 1, 0, 0, 0, 0, 0, []),
  (1, .istore_n 2, 1, 2, 0, 0, 0, 0, []),
  (2, .iconst 1, 1, 0, 0, 0, 0, 1, []),
  (3, .istore_n 3, 1, 3, 0, 0, 0, 0, []),
  (4, .iload_n 3, 1, 3, 0, 0, 0, 0, []),
  (5, .bipush 53, 2, 0, 0, 0, 0, 53, []),
  (7, .if_icmp .ge 19, 3, 26, 0, 0, 0, 0, []),
  (10, .lload_n 0, 1, 0, 0, 0, 0, 0, []),
  (11, .iload_n 3, 1, 3, 0, 0, 0, 0, []),
  (12, .lshr, 1, 0, 0, 0, 0, 0, []),
  (13, .lconst 0, 1, 0, 0, 0, 0, 0, []),
  (14, .lcmp, 4, 20, 0, 0, 0, 0, []),
  (18, .iload_n 3, 1, 3, 0, 0, 0, 0, []),
  (19, .istore_n 2, 1, 2, 0, 0, 0, 0, []),
  (20, .iinc 3 1, 3, 3, 0, 0, 0, 1, []),
  (23, .goto (-19), 3, 4, 0, 0, 0, 0, []),
  (26, .iload_n 2, 1, 2, 0, 0, 0, 0, []),
  (27, .bipush 32, 2, 0, 0, 0, 0, 32, []),
  (29, .isub, 1, 0, 0, 0, 0, 0, []),
  (30, .sipush 1023, 3, 0, 0, 0, 0, 1023, []),
  (33, .iadd, 1, 0, 0, 0, 0, 0, []),
  (34, .i2l, 1, 0, 0, 0, 0, 0, []),
  (35, .lstore_n 3, 1, 3, 0, 0, 0, 0, []),
  (36, .lload_n 0, 1, 0, 0, 0, 0, 0, []),
  (37, .bipush 52, 2, 0, 0, 0, 0, 52, []),
  (39, .iload_n 2, 1, 2, 0, 0, 0, 0, []),
  (40, .isub, 1, 0, 0, 0, 0, 0, []),
  (41, .lshl, 1, 0, 0, 0, 0, 0, []),
  (42, .ldc2_w 393, 3, 0, 0, 0, 0, 4503599627370495, [15]),
  (45, .land, 1, 0, 0, 0, 0, 0, []),
  (46, .lstore 5, 2, 5, 0, 0, 0, 0, []),
  (48, .lload_n 3, 1, 3, 0, 0, 0, 0, []),
  (49, .bipush 52, 2, 0, 0, 0, 0, 52, []),
  (51, .lshl, 1, 0, 0, 0, 0, 0, []),
  (52, .lload 5, 2, 5, 0, 0, 0, 0, []),
  (54, .lor, 1, 0, 0, 0, 0, 0, []),
  (55, .lreturn, 1, 0, 0, 0, 0, 0, [])]
abbrev kMo_isIn : Nat := 138
def cMo_isIn : List xE := [(0, .lload_n 0, 1, 0, 0, 0, 0, 0, []),
  (1, .lload_n 2, 1, 2, 0, 0, 0, 0, []),
  (2, .lcmp, 4, 17, 2, 0, 0, 0, []),
  (6, .lload_n 0, 1, 0, 0, 0, 0, 0, []),
  (7, .lload 4, 2, 4, 0, 0, 0, 0, []),
  (9, .lcmp, 4, 17, 4, 0, 0, 0, []),
  (13, .iconst 1, 1, 0, 0, 0, 0, 1, []),
  (14, .goto 4, 3, 18, 0, 0, 0, 0, []),
  (17, .iconst 0, 1, 0, 0, 0, 0, 0, []),
  (18, .ireturn, 1, 1, 0, 0, 0, 0, [])]
abbrev kMo_startsAnew : Nat := 139
def cMo_startsAnew : List xE := [(0, .iconst 0, 1, 0, 0, 0, 0, 0, []),
  (1, .istore_n 1, 1, 1, 0, 0, 0, 0, []),
  (2, .iload_n 1, 1, 1, 0, 0, 0, 0, []),
  (3, .sipush 259, 3, 0, 0, 0, 0, 259, []),
  (6, .if_icmp .ge 16, 3, 22, 0, 0, 0, 0, []),
  (9, .aload_n 0, 1, 0, 0, 0, 0, 0, []),
  (10, .getfield 7, 3, 9, 0, 3, 259, 1, [125]),
  (13, .iload_n 1, 1, 1, 0, 0, 0, 0, []),
  (14, .iconst 0, 1, 0, 0, 0, 0, 0, []),
  (15, .iastore, 1, 0, 0, 0, 0, 0, []),
  (16, .iinc 1 1, 3, 1, 0, 0, 0, 1, []),
  (19, .goto (-17), 3, 2, 0, 0, 0, 0, []),
  (22, .iconst 0, 1, 0, 0, 0, 0, 0, []),
  (23, .istore_n 1, 1, 1, 0, 0, 0, 0, []),
  (24, .iload_n 1, 1, 1, 0, 0, 0, 0, []),
  (25, .bipush 60, 2, 0, 0, 0, 0, 60, []),
  (27, .if_icmp .gt 20, 3, 47, 0, 0, 0, 0, []),
  (30, .aload_n 0, 1, 0, 0, 0, 0, 0, []),
  (31, .getfield 7, 3, 9, 0, 3, 259, 1, [125]),
  (34, .sipush 182, 3, 0, 0, 0, 0, 182, []),
  (37, .iload_n 1, 1, 1, 0, 0, 0, 0, []),
  (38, .iadd, 1, 0, 0, 0, 0, 0, []),
  (39, .iconst (-1), 1, 0, 0, 0, 0, (-1), []),
  (40, .iastore, 1, 0, 0, 0, 0, 0, []),
  (41, .iinc 1 1, 3, 1, 0, 0, 0, 1, []),
  (44, .goto (-20), 3, 24, 0, 0, 0, 0, []),
  (47, .aload_n 0, 1, 0, 0, 0, 0, 0, []),
  (48, .getfield 7, 3, 9, 0, 3, 259, 1, [125]),
  (51, .iconst 1, 1, 0, 0, 0, 0, 1, []),
  (52, .bipush 8, 2, 0, 0, 0, 0, 8, []),
  (54, .iastore, 1, 0, 0, 0, 0, 0, []),
  (55, .iconst 0, 1, 0, 0, 0, 0, 0, []),
  (56, .istore_n 1, 1, 1, 0, 0, 0, 0, []),
  (57, .iload_n 1, 1, 1, 0, 0, 0, 0, []),
  (58, .bipush 8, 2, 0, 0, 0, 0, 8, []),
  (60, .if_icmp .ge 20, 3, 80, 0, 0, 0, 0, []),
  (63, .aload_n 0, 1, 0, 0, 0, 0, 0, []),
  (64, .getfield 7, 3, 9, 0, 3, 259, 1, [125]),
  (67, .sipush 243, 3, 0, 0, 0, 0, 243, []),
  (70, .iload_n 1, 1, 1, 0, 0, 0, 0, []),
  (71, .iadd, 1, 0, 0, 0, 0, 0, []),
  (72, .iconst 4, 1, 0, 0, 0, 0, 4, []),
  (73, .iastore, 1, 0, 0, 0, 0, 0, []),
  (74, .iinc 1 1, 3, 1, 0, 0, 0, 1, []),
  (77, .goto (-20), 3, 57, 0, 0, 0, 0, []),
  (80, .return_, 1, 0, 0, 0, 0, 0, [])]
abbrev kMo_unsigned : Nat := 140
def cMo_unsigned : List xE := [(0, .iload_n 0, 1, 0, 0, 0, 0, 0, []),
  (1, .i2l, 1, 0, 0, 0, 0, 0, []),
  (2, .ldc2_w 117, 3, 0, 0, 0, 0, 4294967295, [17]),
  (5, .land, 1, 0, 0, 0, 0, 0, []),
  (6, .lreturn, 1, 0, 0, 0, 0, 0, [])]
abbrev kMo_sizeOf : Nat := 141
def cMo_sizeOf : List xE := [(0, .lconst 1, 1, 0, 0, 0, 0, 1, []),
  (1, .bipush 32, 2, 0, 0, 0, 0, 32, []),
  (3, .iload_n 0, 1, 0, 0, 0, 0, 0, []),
  (4, .isub, 1, 0, 0, 0, 0, 0, []),
  (5, .lshl, 1, 0, 0, 0, 0, 0, []),
  (6, .lreturn, 1, 0, 0, 0, 0, 0, [])]
abbrev kMo_isBeginning : Nat := 142
def cMo_isBeginning : List xE := [(0, .iload_n 1, 1, 1, 0, 0, 0, 0, []),
  (1, .i2l, 1, 0, 0, 0, 0, 0, []),
  (2, .lconst 0, 1, 0, 0, 0, 0, 0, []),
  (3, .ldc2_w 119, 3, 0, 0, 0, 0, 32, [18]),
  (6, .invokestatic 121, 3, 138, 3, 6, 1, 0, [137]),
  (9, .ifCond .eq 21, 3, 30, 0, 0, 0, 0, []),
  (12, .iload_n 0, 1, 0, 0, 0, 0, 0, []),
  (13, .invokestatic 125, 3, 140, 1, 1, 1, 0, [138]),
  (16, .iload_n 1, 1, 1, 0, 0, 0, 0, []),
  (17, .invokestatic 129, 3, 141, 1, 1, 1, 0, [139]),
  (20, .lrem, 1, 0, 0, 0, 0, 0, []),
  (21, .lconst 0, 1, 0, 0, 0, 0, 0, []),
  (22, .lcmp, 4, 30, 1, 0, 0, 0, []),
  (26, .iconst 1, 1, 0, 0, 0, 0, 1, []),
  (27, .goto 4, 3, 31, 0, 0, 0, 0, []),
  (30, .iconst 0, 1, 0, 0, 0, 0, 0, []),
  (31, .ireturn, 1, 1, 0, 0, 0, 0, [])]
abbrev kMo_isWay : Nat := 143
def cMo_isWay : List xE := [(0, .iload_n 0, 1, 0, 0, 0, 0, 0, []),
  (1, .i2l, 1, 0, 0, 0, 0, 0, []),
  (2, .lconst 0, 1, 0, 0, 0, 0, 0, []),
  (3, .ldc2_w 132, 3, 0, 0, 0, 0, 99, [19]),
  (6, .invokestatic 121, 3, 138, 3, 6, 1, 0, [137]),
  (9, .ifCond .eq 19, 3, 28, 0, 0, 0, 0, []),
  (12, .iload_n 1, 1, 1, 0, 0, 0, 0, []),
  (13, .i2l, 1, 0, 0, 0, 0, 0, []),
  (14, .lconst 0, 1, 0, 0, 0, 0, 0, []),
  (15, .ldc2_w 134, 3, 0, 0, 0, 0, 9, [20]),
  (18, .invokestatic 121, 3, 138, 3, 6, 1, 0, [137]),
  (21, .ifCond .eq 7, 3, 28, 0, 0, 0, 0, []),
  (24, .iconst 1, 1, 0, 0, 0, 0, 1, []),
  (25, .goto 4, 3, 29, 0, 0, 0, 0, []),
  (28, .iconst 0, 1, 0, 0, 0, 0, 0, []),
  (29, .ireturn, 1, 1, 0, 0, 0, 0, [])]
abbrev kMo_valueOf : Nat := 144
def cMo_valueOf : List xE := [(0, .aload_n 0, 1, 0, 0, 0, 0, 0, []),
  (1, .getfield 7, 3, 9, 0, 3, 259, 1, [125]),
  (4, .iconst 2, 1, 0, 0, 0, 0, 2, []),
  (5, .iload_n 1, 1, 1, 0, 0, 0, 0, []),
  (6, .iadd, 1, 0, 0, 0, 0, 0, []),
  (7, .iaload, 1, 0, 0, 0, 0, 0, []),
  (8, .invokestatic 125, 3, 140, 1, 1, 1, 0, [138]),
  (11, .lreturn, 1, 0, 0, 0, 0, 0, [])]
abbrev kMo_find : Nat := 145
def cMo_find : List xE := [(0, .iconst 0, 1, 0, 0, 0, 0, 0, []),
  (1, .istore 4, 2, 4, 0, 0, 0, 0, []),
  (3, .iload 4, 2, 4, 0, 0, 0, 0, []),
  (5, .aload_n 0, 1, 0, 0, 0, 0, 0, []),
  (6, .getfield 7, 3, 9, 0, 3, 259, 1, [125]),
  (9, .iconst 0, 1, 0, 0, 0, 0, 0, []),
  (10, .iaload, 1, 0, 0, 0, 0, 0, []),
  (11, .if_icmp .ge 37, 3, 48, 0, 0, 0, 0, []),
  (14, .aload_n 0, 1, 0, 0, 0, 0, 0, []),
  (15, .iload 4, 2, 4, 0, 0, 0, 0, []),
  (17, .invokevirtual 136, 3, 144, 2, 2, 1, 9, [140]),
  (20, .lload_n 1, 1, 1, 0, 0, 0, 0, []),
  (21, .lcmp, 4, 42, 1, 0, 0, 0, []),
  (25, .aload_n 0, 1, 0, 0, 0, 0, 0, []),
  (26, .getfield 7, 3, 9, 0, 3, 259, 1, [125]),
  (29, .bipush 62, 2, 0, 0, 0, 0, 62, []),
  (31, .iload 4, 2, 4, 0, 0, 0, 0, []),
  (33, .iadd, 1, 0, 0, 0, 0, 0, []),
  (34, .iaload, 1, 0, 0, 0, 0, 0, []),
  (35, .iload_n 3, 1, 3, 0, 0, 0, 0, []),
  (36, .if_icmp .ne 6, 3, 42, 0, 0, 0, 0, []),
  (39, .iload 4, 2, 4, 0, 0, 0, 0, []),
  (41, .ireturn, 1, 0, 0, 0, 0, 0, []),
  (42, .iinc 4 1, 3, 4, 0, 0, 0, 1, []),
  (45, .goto (-42), 3, 3, 0, 0, 0, 0, []),
  (48, .iconst (-1), 1, 0, 0, 0, 0, (-1), []),
  (49, .ireturn, 1, 0, 0, 0, 0, 0, [])]
abbrev kMo_rulesOf : Nat := 146
def cMo_rulesOf : List xE := [(0, .iconst 0, 1, 0, 0, 0, 0, 0, []),
  (1, .istore_n 2, 1, 2, 0, 0, 0, 0, []),
  (2, .iconst 0, 1, 0, 0, 0, 0, 0, []),
  (3, .istore_n 3, 1, 3, 0, 0, 0, 0, []),
  (4, .iload_n 3, 1, 3, 0, 0, 0, 0, []),
  (5, .aload_n 0, 1, 0, 0, 0, 0, 0, []),
  (6, .getfield 7, 3, 9, 0, 3, 259, 1, [125]),
  (9, .iconst 0, 1, 0, 0, 0, 0, 0, []),
  (10, .iaload, 1, 0, 0, 0, 0, 0, []),
  (11, .if_icmp .ge 30, 3, 41, 0, 0, 0, 0, []),
  (14, .iload_n 2, 1, 2, 0, 0, 0, 0, []),
  (15, .aload_n 0, 1, 0, 0, 0, 0, 0, []),
  (16, .getfield 7, 3, 9, 0, 3, 259, 1, [125]),
  (19, .bipush 122, 2, 0, 0, 0, 0, 122, []),
  (21, .iload_n 3, 1, 3, 0, 0, 0, 0, []),
  (22, .iadd, 1, 0, 0, 0, 0, 0, []),
  (23, .iaload, 1, 0, 0, 0, 0, 0, []),
  (24, .iload_n 1, 1, 1, 0, 0, 0, 0, []),
  (25, .if_icmp .ne 7, 3, 32, 0, 0, 0, 0, []),
  (28, .iconst 1, 1, 0, 0, 0, 0, 1, []),
  (29, .goto 4, 3, 33, 0, 0, 0, 0, []),
  (32, .iconst 0, 1, 0, 0, 0, 0, 0, []),
  (33, .iadd, 1, 0, 0, 0, 0, 0, []),
  (34, .istore_n 2, 1, 2, 0, 0, 0, 0, []),
  (35, .iinc 3 1, 3, 3, 0, 0, 0, 1, []),
  (38, .goto (-34), 3, 4, 0, 0, 0, 0, []),
  (41, .iload_n 2, 1, 2, 0, 0, 0, 0, []),
  (42, .ireturn, 1, 0, 0, 0, 0, 0, [])]
abbrev kMo_hopOf : Nat := 147
def cMo_hopOf : List xE := [(0, .iconst 0, 1, 0, 0, 0, 0, 0, []),
  (1, .istore_n 2, 1, 2, 0, 0, 0, 0, []),
  (2, .iload_n 2, 1, 2, 0, 0, 0, 0, []),
  (3, .bipush 60, 2, 0, 0, 0, 0, 60, []),
  (5, .if_icmp .gt 25, 3, 30, 0, 0, 0, 0, []),
  (8, .aload_n 0, 1, 0, 0, 0, 0, 0, []),
  (9, .getfield 7, 3, 9, 0, 3, 259, 1, [125]),
  (12, .sipush 182, 3, 0, 0, 0, 0, 182, []),
  (15, .iload_n 2, 1, 2, 0, 0, 0, 0, []),
  (16, .iadd, 1, 0, 0, 0, 0, 0, []),
  (17, .iaload, 1, 0, 0, 0, 0, 0, []),
  (18, .iload_n 1, 1, 1, 0, 0, 0, 0, []),
  (19, .if_icmp .ne 5, 3, 24, 0, 0, 0, 0, []),
  (22, .iload_n 2, 1, 2, 0, 0, 0, 0, []),
  (23, .ireturn, 1, 0, 0, 0, 0, 0, []),
  (24, .iinc 2 1, 3, 2, 0, 0, 0, 1, []),
  (27, .goto (-25), 3, 2, 0, 0, 0, 0, []),
  (30, .iconst (-1), 1, 0, 0, 0, 0, (-1), []),
  (31, .ireturn, 1, 0, 0, 0, 0, 0, [])]
abbrev kMo_hopFor : Nat := 148
def cMo_hopFor : List xE := [(0, .aload_n 0, 1, 0, 0, 0, 0, 0, []),
  (1, .iload_n 1, 1, 1, 0, 0, 0, 0, []),
  (2, .invokevirtual 139, 3, 147, 2, 3, 1, 9, [141]),
  (5, .istore_n 2, 1, 2, 0, 0, 0, 0, []),
  (6, .iload_n 2, 1, 2, 0, 0, 0, 0, []),
  (7, .iconst (-1), 1, 0, 0, 0, 0, (-1), []),
  (8, .if_icmp .eq 5, 3, 13, 0, 0, 0, 0, []),
  (11, .iload_n 2, 1, 2, 0, 0, 0, 0, []),
  (12, .ireturn, 1, 0, 0, 0, 0, 0, []),
  (13, .aload_n 0, 1, 0, 0, 0, 0, 0, []),
  (14, .iconst (-1), 1, 0, 0, 0, 0, (-1), []),
  (15, .invokevirtual 139, 3, 147, 2, 3, 1, 9, [141]),
  (18, .istore_n 2, 1, 2, 0, 0, 0, 0, []),
  (19, .aload_n 0, 1, 0, 0, 0, 0, 0, []),
  (20, .getfield 7, 3, 9, 0, 3, 259, 1, [125]),
  (23, .sipush 182, 3, 0, 0, 0, 0, 182, []),
  (26, .iload_n 2, 1, 2, 0, 0, 0, 0, []),
  (27, .iadd, 1, 0, 0, 0, 0, 0, []),
  (28, .iload_n 1, 1, 1, 0, 0, 0, 0, []),
  (29, .iastore, 1, 0, 0, 0, 0, 0, []),
  (30, .iload_n 2, 1, 2, 0, 0, 0, 0, []),
  (31, .ireturn, 1, 0, 0, 0, 0, 0, [])]
abbrev kMo_frees : Nat := 149
def cMo_frees : List xE := [(0, .aload_n 0, 1, 0, 0, 0, 0, 0, []),
  (1, .iload_n 1, 1, 1, 0, 0, 0, 0, []),
  (2, .invokevirtual 143, 3, 146, 2, 4, 1, 9, [142]),
  (5, .ifCond .ne 14, 3, 19, 0, 0, 0, 0, []),
  (8, .aload_n 0, 1, 0, 0, 0, 0, 0, []),
  (9, .getfield 7, 3, 9, 0, 3, 259, 1, [125]),
  (12, .sipush 182, 3, 0, 0, 0, 0, 182, []),
  (15, .iload_n 1, 1, 1, 0, 0, 0, 0, []),
  (16, .iadd, 1, 0, 0, 0, 0, 0, []),
  (17, .iconst (-1), 1, 0, 0, 0, 0, (-1), []),
  (18, .iastore, 1, 0, 0, 0, 0, 0, []),
  (19, .return_, 1, 0, 0, 0, 0, 0, [])]
abbrev kMo_isAhead : Nat := 150
def cMo_isAhead : List xE := [(0, .aload_n 0, 1, 0, 0, 0, 0, 0, []),
  (1, .iload_n 1, 1, 1, 0, 0, 0, 0, []),
  (2, .invokevirtual 136, 3, 144, 2, 2, 1, 9, [140]),
  (5, .lload_n 2, 1, 2, 0, 0, 0, 0, []),
  (6, .lcmp, 4, 34, 2, 0, 0, 0, []),
  (10, .aload_n 0, 1, 0, 0, 0, 0, 0, []),
  (11, .iload_n 1, 1, 1, 0, 0, 0, 0, []),
  (12, .invokevirtual 136, 3, 144, 2, 2, 1, 9, [140]),
  (15, .lload_n 2, 1, 2, 0, 0, 0, 0, []),
  (16, .lcmp, 4, 38, 1, 0, 0, 0, []),
  (20, .aload_n 0, 1, 0, 0, 0, 0, 0, []),
  (21, .getfield 7, 3, 9, 0, 3, 259, 1, [125]),
  (24, .bipush 62, 2, 0, 0, 0, 0, 62, []),
  (26, .iload_n 1, 1, 1, 0, 0, 0, 0, []),
  (27, .iadd, 1, 0, 0, 0, 0, 0, []),
  (28, .iaload, 1, 0, 0, 0, 0, 0, []),
  (29, .iload 4, 2, 4, 0, 0, 0, 0, []),
  (31, .if_icmp .ge 7, 3, 38, 0, 0, 0, 0, []),
  (34, .iconst 1, 1, 0, 0, 0, 0, 1, []),
  (35, .goto 4, 3, 39, 0, 0, 0, 0, []),
  (38, .iconst 0, 1, 0, 0, 0, 0, 0, []),
  (39, .ireturn, 1, 1, 0, 0, 0, 0, [])]
abbrev kMo_copies : Nat := 151
def cMo_copies : List xE := [(0, .aload_n 0, 1, 0, 0, 0, 0, 0, []),
  (1, .getfield 7, 3, 9, 0, 3, 259, 1, [125]),
  (4, .iconst 2, 1, 0, 0, 0, 0, 2, []),
  (5, .iload_n 1, 1, 1, 0, 0, 0, 0, []),
  (6, .iadd, 1, 0, 0, 0, 0, 0, []),
  (7, .aload_n 0, 1, 0, 0, 0, 0, 0, []),
  (8, .getfield 7, 3, 9, 0, 3, 259, 1, [125]),
  (11, .iconst 2, 1, 0, 0, 0, 0, 2, []),
  (12, .iload_n 2, 1, 2, 0, 0, 0, 0, []),
  (13, .iadd, 1, 0, 0, 0, 0, 0, []),
  (14, .iaload, 1, 0, 0, 0, 0, 0, []),
  (15, .iastore, 1, 0, 0, 0, 0, 0, []),
  (16, .aload_n 0, 1, 0, 0, 0, 0, 0, []),
  (17, .getfield 7, 3, 9, 0, 3, 259, 1, [125]),
  (20, .bipush 62, 2, 0, 0, 0, 0, 62, []),
  (22, .iload_n 1, 1, 1, 0, 0, 0, 0, []),
  (23, .iadd, 1, 0, 0, 0, 0, 0, []),
  (24, .aload_n 0, 1, 0, 0, 0, 0, 0, []),
  (25, .getfield 7, 3, 9, 0, 3, 259, 1, [125]),
  (28, .bipush 62, 2, 0, 0, 0, 0, 62, []),
  (30, .iload_n 2, 1, 2, 0, 0, 0, 0, []),
  (31, .iadd, 1, 0, 0, 0, 0, 0, []),
  (32, .iaload, 1, 0, 0, 0, 0, 0, []),
  (33, .iastore, 1, 0, 0, 0, 0, 0, []),
  (34, .aload_n 0, 1, 0, 0, 0, 0, 0, []),
  (35, .getfield 7, 3, 9, 0, 3, 259, 1, [125]),
  (38, .bipush 122, 2, 0, 0, 0, 0, 122, []),
  (40, .iload_n 1, 1, 1, 0, 0, 0, 0, []),
  (41, .iadd, 1, 0, 0, 0, 0, 0, []),
  (42, .aload_n 0, 1, 0, 0, 0, 0, 0, []),
  (43, .getfield 7, 3, 9, 0, 3, 259, 1, [125]),
  (46, .bipush 122, 2, 0, 0, 0, 0, 122, []),
  (48, .iload_n 2, 1, 2, 0, 0, 0, 0, []),
  (49, .iadd, 1, 0, 0, 0, 0, 0, []),
  (50, .iaload, 1, 0, 0, 0, 0, 0, []),
  (51, .iastore, 1, 0, 0, 0, 0, 0, []),
  (52, .return_, 1, 0, 0, 0, 0, 0, [])]
abbrev kMo_puts : Nat := 152
def cMo_puts : List xE := [(0, .aload_n 0, 1, 0, 0, 0, 0, 0, []),
  (1, .lload_n 1, 1, 1, 0, 0, 0, 0, []),
  (2, .iload_n 3, 1, 3, 0, 0, 0, 0, []),
  (3, .invokevirtual 146, 3, 145, 3, 5, 1, 9, [143]),
  (6, .istore 5, 2, 5, 0, 0, 0, 0, []),
  (8, .iload 5, 2, 5, 0, 0, 0, 0, []),
  (10, .iconst (-1), 1, 0, 0, 0, 0, (-1), []),
  (11, .if_icmp .ne 91, 3, 102, 0, 0, 0, 0, []),
  (14, .aload_n 0, 1, 0, 0, 0, 0, 0, []),
  (15, .getfield 7, 3, 9, 0, 3, 259, 1, [125]),
  (18, .iconst 0, 1, 0, 0, 0, 0, 0, []),
  (19, .iaload, 1, 0, 0, 0, 0, 0, []),
  (20, .istore 5, 2, 5, 0, 0, 0, 0, []),
  (22, .iload 5, 2, 5, 0, 0, 0, 0, []),
  (24, .ifCond .le 32, 3, 56, 0, 0, 0, 0, []),
  (27, .aload_n 0, 1, 0, 0, 0, 0, 0, []),
  (28, .iload 5, 2, 5, 0, 0, 0, 0, []),
  (30, .iconst 1, 1, 0, 0, 0, 0, 1, []),
  (31, .isub, 1, 0, 0, 0, 0, 0, []),
  (32, .lload_n 1, 1, 1, 0, 0, 0, 0, []),
  (33, .iload_n 3, 1, 3, 0, 0, 0, 0, []),
  (34, .invokevirtual 150, 3, 150, 4, 5, 1, 9, [144]),
  (37, .ifCond .ne 19, 3, 56, 0, 0, 0, 0, []),
  (40, .aload_n 0, 1, 0, 0, 0, 0, 0, []),
  (41, .iload 5, 2, 5, 0, 0, 0, 0, []),
  (43, .iload 5, 2, 5, 0, 0, 0, 0, []),
  (45, .iconst 1, 1, 0, 0, 0, 0, 1, []),
  (46, .isub, 1, 0, 0, 0, 0, 0, []),
  (47, .invokevirtual 154, 3, 151, 3, 3, 0, 9, [145]),
  (50, .iinc 5 (-1), 3, 5, 0, 0, 0, (-1), []),
  (53, .goto (-31), 3, 22, 0, 0, 0, 0, []),
  (56, .aload_n 0, 1, 0, 0, 0, 0, 0, []),
  (57, .getfield 7, 3, 9, 0, 3, 259, 1, [125]),
  (60, .iconst 0, 1, 0, 0, 0, 0, 0, []),
  (61, .dup2, 1, 0, 0, 0, 0, 0, []),
  (62, .iaload, 1, 0, 0, 0, 0, 0, []),
  (63, .iconst 1, 1, 0, 0, 0, 0, 1, []),
  (64, .iadd, 1, 0, 0, 0, 0, 0, []),
  (65, .iastore, 1, 0, 0, 0, 0, 0, []),
  (66, .aload_n 0, 1, 0, 0, 0, 0, 0, []),
  (67, .getfield 7, 3, 9, 0, 3, 259, 1, [125]),
  (70, .iconst 2, 1, 0, 0, 0, 0, 2, []),
  (71, .iload 5, 2, 5, 0, 0, 0, 0, []),
  (73, .iadd, 1, 0, 0, 0, 0, 0, []),
  (74, .lload_n 1, 1, 1, 0, 0, 0, 0, []),
  (75, .l2i, 1, 0, 0, 0, 0, 0, []),
  (76, .iastore, 1, 0, 0, 0, 0, 0, []),
  (77, .aload_n 0, 1, 0, 0, 0, 0, 0, []),
  (78, .getfield 7, 3, 9, 0, 3, 259, 1, [125]),
  (81, .bipush 62, 2, 0, 0, 0, 0, 62, []),
  (83, .iload 5, 2, 5, 0, 0, 0, 0, []),
  (85, .iadd, 1, 0, 0, 0, 0, 0, []),
  (86, .iload_n 3, 1, 3, 0, 0, 0, 0, []),
  (87, .iastore, 1, 0, 0, 0, 0, 0, []),
  (88, .aload_n 0, 1, 0, 0, 0, 0, 0, []),
  (89, .getfield 7, 3, 9, 0, 3, 259, 1, [125]),
  (92, .bipush 122, 2, 0, 0, 0, 0, 122, []),
  (94, .iload 5, 2, 5, 0, 0, 0, 0, []),
  (96, .iadd, 1, 0, 0, 0, 0, 0, []),
  (97, .iconst (-1), 1, 0, 0, 0, 0, (-1), []),
  (98, .iastore, 1, 0, 0, 0, 0, 0, []),
  (99, .goto 51, 3, 150, 0, 0, 0, 0, []),
  (102, .aload_n 0, 1, 0, 0, 0, 0, 0, []),
  (103, .getfield 7, 3, 9, 0, 3, 259, 1, [125]),
  (106, .bipush 122, 2, 0, 0, 0, 0, 122, []),
  (108, .iload 5, 2, 5, 0, 0, 0, 0, []),
  (110, .iadd, 1, 0, 0, 0, 0, 0, []),
  (111, .iaload, 1, 0, 0, 0, 0, 0, []),
  (112, .istore 6, 2, 6, 0, 0, 0, 0, []),
  (114, .aload_n 0, 1, 0, 0, 0, 0, 0, []),
  (115, .getfield 7, 3, 9, 0, 3, 259, 1, [125]),
  (118, .sipush 182, 3, 0, 0, 0, 0, 182, []),
  (121, .iload 6, 2, 6, 0, 0, 0, 0, []),
  (123, .iadd, 1, 0, 0, 0, 0, 0, []),
  (124, .iaload, 1, 0, 0, 0, 0, 0, []),
  (125, .iload 4, 2, 4, 0, 0, 0, 0, []),
  (127, .if_icmp .ne 6, 3, 133, 0, 0, 0, 0, []),
  (130, .iload 5, 2, 5, 0, 0, 0, 0, []),
  (132, .ireturn, 1, 0, 0, 0, 0, 0, []),
  (133, .aload_n 0, 1, 0, 0, 0, 0, 0, []),
  (134, .getfield 7, 3, 9, 0, 3, 259, 1, [125]),
  (137, .bipush 122, 2, 0, 0, 0, 0, 122, []),
  (139, .iload 5, 2, 5, 0, 0, 0, 0, []),
  (141, .iadd, 1, 0, 0, 0, 0, 0, []),
  (142, .iconst (-1), 1, 0, 0, 0, 0, (-1), []),
  (143, .iastore, 1, 0, 0, 0, 0, 0, []),
  (144, .aload_n 0, 1, 0, 0, 0, 0, 0, []),
  (145, .iload 6, 2, 6, 0, 0, 0, 0, []),
  (147, .invokevirtual 158, 3, 149, 2, 2, 0, 9, [146]),
  (150, .aload_n 0, 1, 0, 0, 0, 0, 0, []),
  (151, .getfield 7, 3, 9, 0, 3, 259, 1, [125]),
  (154, .bipush 122, 2, 0, 0, 0, 0, 122, []),
  (156, .iload 5, 2, 5, 0, 0, 0, 0, []),
  (158, .iadd, 1, 0, 0, 0, 0, 0, []),
  (159, .aload_n 0, 1, 0, 0, 0, 0, 0, []),
  (160, .iload 4, 2, 4, 0, 0, 0, 0, []),
  (162, .invokevirtual 162, 3, 148, 2, 3, 1, 9, [147]),
  (165, .iastore, 1, 0, 0, 0, 0, 0, []),
  (166, .iload 5, 2, 5, 0, 0, 0, 0, []),
  (168, .ireturn, 1, 0, 0, 0, 0, 0, [])]
abbrev kMo_drops : Nat := 153
def cMo_drops : List xE := [(0, .aload_n 0, 1, 0, 0, 0, 0, 0, []),
  (1, .getfield 7, 3, 9, 0, 3, 259, 1, [125]),
  (4, .bipush 122, 2, 0, 0, 0, 0, 122, []),
  (6, .iload_n 1, 1, 1, 0, 0, 0, 0, []),
  (7, .iadd, 1, 0, 0, 0, 0, 0, []),
  (8, .iaload, 1, 0, 0, 0, 0, 0, []),
  (9, .istore_n 2, 1, 2, 0, 0, 0, 0, []),
  (10, .iload_n 1, 1, 1, 0, 0, 0, 0, []),
  (11, .istore_n 3, 1, 3, 0, 0, 0, 0, []),
  (12, .iload_n 3, 1, 3, 0, 0, 0, 0, []),
  (13, .iconst 1, 1, 0, 0, 0, 0, 1, []),
  (14, .iadd, 1, 0, 0, 0, 0, 0, []),
  (15, .aload_n 0, 1, 0, 0, 0, 0, 0, []),
  (16, .getfield 7, 3, 9, 0, 3, 259, 1, [125]),
  (19, .iconst 0, 1, 0, 0, 0, 0, 0, []),
  (20, .iaload, 1, 0, 0, 0, 0, 0, []),
  (21, .if_icmp .ge 17, 3, 38, 0, 0, 0, 0, []),
  (24, .aload_n 0, 1, 0, 0, 0, 0, 0, []),
  (25, .iload_n 3, 1, 3, 0, 0, 0, 0, []),
  (26, .iload_n 3, 1, 3, 0, 0, 0, 0, []),
  (27, .iconst 1, 1, 0, 0, 0, 0, 1, []),
  (28, .iadd, 1, 0, 0, 0, 0, 0, []),
  (29, .invokevirtual 154, 3, 151, 3, 3, 0, 9, [145]),
  (32, .iinc 3 1, 3, 3, 0, 0, 0, 1, []),
  (35, .goto (-23), 3, 12, 0, 0, 0, 0, []),
  (38, .aload_n 0, 1, 0, 0, 0, 0, 0, []),
  (39, .getfield 7, 3, 9, 0, 3, 259, 1, [125]),
  (42, .iconst 0, 1, 0, 0, 0, 0, 0, []),
  (43, .dup2, 1, 0, 0, 0, 0, 0, []),
  (44, .iaload, 1, 0, 0, 0, 0, 0, []),
  (45, .iconst 1, 1, 0, 0, 0, 0, 1, []),
  (46, .isub, 1, 0, 0, 0, 0, 0, []),
  (47, .iastore, 1, 0, 0, 0, 0, 0, []),
  (48, .aload_n 0, 1, 0, 0, 0, 0, 0, []),
  (49, .iload_n 2, 1, 2, 0, 0, 0, 0, []),
  (50, .invokevirtual 158, 3, 149, 2, 2, 0, 9, [146]),
  (53, .return_, 1, 0, 0, 0, 0, 0, [])]
abbrev kMo_addsPlace : Nat := 154
def cMo_addsPlace : List xE := [(0, .lload_n 1, 1, 1, 0, 0, 0, 0, []),
  (1, .ldc2_w 165, 3, 0, 0, 0, 0, 4294967296, [21]),
  (4, .lcmp, 4, 9, 2, 0, 0, 0, []),
  (8, .return_, 1, 0, 0, 0, 0, 0, []),
  (9, .aload_n 0, 1, 0, 0, 0, 0, 0, []),
  (10, .getfield 167, 3, 9, 12, 0, 0, 0, [157]),
  (13, .istore_n 3, 1, 3, 0, 0, 0, 0, []),
  (14, .iload_n 3, 1, 3, 0, 0, 0, 0, []),
  (15, .ifCond .le 22, 3, 37, 0, 0, 0, 0, []),
  (18, .aload_n 0, 1, 0, 0, 0, 0, 0, []),
  (19, .getfield 42, 3, 9, 13, 4, 124, 11, [135]),
  (22, .iload_n 3, 1, 3, 0, 0, 0, 0, []),
  (23, .iconst 1, 1, 0, 0, 0, 0, 1, []),
  (24, .isub, 1, 0, 0, 0, 0, 0, []),
  (25, .laload, 1, 0, 0, 0, 0, 0, []),
  (26, .lload_n 1, 1, 1, 0, 0, 0, 0, []),
  (27, .lcmp, 4, 37, 5, 0, 0, 0, []),
  (31, .iinc 3 (-1), 3, 3, 0, 0, 0, (-1), []),
  (34, .goto (-20), 3, 14, 0, 0, 0, 0, []),
  (37, .iload_n 3, 1, 3, 0, 0, 0, 0, []),
  (38, .ifCond .le 17, 3, 55, 0, 0, 0, 0, []),
  (41, .aload_n 0, 1, 0, 0, 0, 0, 0, []),
  (42, .getfield 42, 3, 9, 13, 4, 124, 11, [135]),
  (45, .iload_n 3, 1, 3, 0, 0, 0, 0, []),
  (46, .iconst 1, 1, 0, 0, 0, 0, 1, []),
  (47, .isub, 1, 0, 0, 0, 0, 0, []),
  (48, .laload, 1, 0, 0, 0, 0, 0, []),
  (49, .lload_n 1, 1, 1, 0, 0, 0, 0, []),
  (50, .lcmp, 4, 55, 1, 0, 0, 0, []),
  (54, .return_, 1, 0, 0, 0, 0, 0, []),
  (55, .aload_n 0, 1, 0, 0, 0, 0, 0, []),
  (56, .getfield 167, 3, 9, 12, 0, 0, 0, [157]),
  (59, .istore 4, 2, 4, 0, 0, 0, 0, []),
  (61, .iload 4, 2, 4, 0, 0, 0, 0, []),
  (63, .iload_n 3, 1, 3, 0, 0, 0, 0, []),
  (64, .if_icmp .le 25, 3, 89, 0, 0, 0, 0, []),
  (67, .aload_n 0, 1, 0, 0, 0, 0, 0, []),
  (68, .getfield 42, 3, 9, 13, 4, 124, 11, [135]),
  (71, .iload 4, 2, 4, 0, 0, 0, 0, []),
  (73, .aload_n 0, 1, 0, 0, 0, 0, 0, []),
  (74, .getfield 42, 3, 9, 13, 4, 124, 11, [135]),
  (77, .iload 4, 2, 4, 0, 0, 0, 0, []),
  (79, .iconst 1, 1, 0, 0, 0, 0, 1, []),
  (80, .isub, 1, 0, 0, 0, 0, 0, []),
  (81, .laload, 1, 0, 0, 0, 0, 0, []),
  (82, .lastore, 1, 0, 0, 0, 0, 0, []),
  (83, .iinc 4 (-1), 3, 4, 0, 0, 0, (-1), []),
  (86, .goto (-25), 3, 61, 0, 0, 0, 0, []),
  (89, .aload_n 0, 1, 0, 0, 0, 0, 0, []),
  (90, .getfield 42, 3, 9, 13, 4, 124, 11, [135]),
  (93, .iload_n 3, 1, 3, 0, 0, 0, 0, []),
  (94, .lload_n 1, 1, 1, 0, 0, 0, 0, []),
  (95, .lastore, 1, 0, 0, 0, 0, 0, []),
  (96, .aload_n 0, 1, 0, 0, 0, 0, 0, []),
  (97, .dup, 1, 0, 0, 0, 0, 0, []),
  (98, .getfield 167, 3, 9, 12, 0, 0, 0, [157]),
  (101, .iconst 1, 1, 0, 0, 0, 0, 1, []),
  (102, .iadd, 1, 0, 0, 0, 0, 0, []),
  (103, .putfield 167, 3, 9, 12, 0, 0, 0, [157]),
  (106, .return_, 1, 0, 0, 0, 0, 0, [])]
abbrev kMo_firstOf : Nat := 155
def cMo_firstOf : List xE := [(0, .aload_n 0, 1, 0, 0, 0, 0, 0, []),
  (1, .iload_n 1, 1, 1, 0, 0, 0, 0, []),
  (2, .iconst 2, 1, 0, 0, 0, 0, 2, []),
  (3, .iadd, 1, 0, 0, 0, 0, 0, []),
  (4, .iload_n 2, 1, 2, 0, 0, 0, 0, []),
  (5, .iadd, 1, 0, 0, 0, 0, 0, []),
  (6, .iaload, 1, 0, 0, 0, 0, 0, []),
  (7, .invokestatic 125, 3, 140, 1, 1, 1, 0, [138]),
  (10, .lreturn, 1, 0, 0, 0, 0, 0, [])]
abbrev kMo_behindOf : Nat := 156
def cMo_behindOf : List xE := [(0, .aload_n 0, 1, 0, 0, 0, 0, 0, []),
  (1, .iload_n 1, 1, 1, 0, 0, 0, 0, []),
  (2, .iload_n 2, 1, 2, 0, 0, 0, 0, []),
  (3, .invokestatic 171, 3, 155, 3, 3, 1, 0, [148]),
  (6, .aload_n 0, 1, 0, 0, 0, 0, 0, []),
  (7, .iload_n 1, 1, 1, 0, 0, 0, 0, []),
  (8, .bipush 62, 2, 0, 0, 0, 0, 62, []),
  (10, .iadd, 1, 0, 0, 0, 0, 0, []),
  (11, .iload_n 2, 1, 2, 0, 0, 0, 0, []),
  (12, .iadd, 1, 0, 0, 0, 0, 0, []),
  (13, .iaload, 1, 0, 0, 0, 0, 0, []),
  (14, .invokestatic 129, 3, 141, 1, 1, 1, 0, [139]),
  (17, .ladd, 1, 0, 0, 0, 0, 0, []),
  (18, .lreturn, 1, 0, 0, 0, 0, 0, [])]
abbrev kMo_ruleOf : Nat := 157
def cMo_ruleOf : List xE := [(0, .iconst (-1), 1, 0, 0, 0, 0, (-1), []),
  (1, .istore 5, 2, 5, 0, 0, 0, 0, []),
  (3, .iconst 0, 1, 0, 0, 0, 0, 0, []),
  (4, .istore 6, 2, 6, 0, 0, 0, 0, []),
  (6, .iload 6, 2, 6, 0, 0, 0, 0, []),
  (8, .aload_n 0, 1, 0, 0, 0, 0, 0, []),
  (9, .iload_n 1, 1, 1, 0, 0, 0, 0, []),
  (10, .iconst 0, 1, 0, 0, 0, 0, 0, []),
  (11, .iadd, 1, 0, 0, 0, 0, 0, []),
  (12, .iaload, 1, 0, 0, 0, 0, 0, []),
  (13, .if_icmp .ge 73, 3, 86, 0, 0, 0, 0, []),
  (16, .iload 6, 2, 6, 0, 0, 0, 0, []),
  (18, .iload 4, 2, 4, 0, 0, 0, 0, []),
  (20, .if_icmp .eq 60, 3, 80, 0, 0, 0, 0, []),
  (23, .lload_n 2, 1, 2, 0, 0, 0, 0, []),
  (24, .aload_n 0, 1, 0, 0, 0, 0, 0, []),
  (25, .iload_n 1, 1, 1, 0, 0, 0, 0, []),
  (26, .iload 6, 2, 6, 0, 0, 0, 0, []),
  (28, .invokestatic 171, 3, 155, 3, 3, 1, 0, [148]),
  (31, .aload_n 0, 1, 0, 0, 0, 0, 0, []),
  (32, .iload_n 1, 1, 1, 0, 0, 0, 0, []),
  (33, .iload 6, 2, 6, 0, 0, 0, 0, []),
  (35, .invokestatic 175, 3, 156, 3, 3, 1, 0, [149]),
  (38, .lconst 1, 1, 0, 0, 0, 0, 1, []),
  (39, .lsub, 1, 0, 0, 0, 0, 0, []),
  (40, .invokestatic 121, 3, 138, 3, 6, 1, 0, [137]),
  (43, .ifCond .ne 6, 3, 49, 0, 0, 0, 0, []),
  (46, .goto 34, 3, 80, 0, 0, 0, 0, []),
  (49, .iload 5, 2, 5, 0, 0, 0, 0, []),
  (51, .iconst (-1), 1, 0, 0, 0, 0, (-1), []),
  (52, .if_icmp .eq 24, 3, 76, 0, 0, 0, 0, []),
  (55, .aload_n 0, 1, 0, 0, 0, 0, 0, []),
  (56, .iload_n 1, 1, 1, 0, 0, 0, 0, []),
  (57, .bipush 62, 2, 0, 0, 0, 0, 62, []),
  (59, .iadd, 1, 0, 0, 0, 0, 0, []),
  (60, .iload 6, 2, 6, 0, 0, 0, 0, []),
  (62, .iadd, 1, 0, 0, 0, 0, 0, []),
  (63, .iaload, 1, 0, 0, 0, 0, 0, []),
  (64, .aload_n 0, 1, 0, 0, 0, 0, 0, []),
  (65, .iload_n 1, 1, 1, 0, 0, 0, 0, []),
  (66, .bipush 62, 2, 0, 0, 0, 0, 62, []),
  (68, .iadd, 1, 0, 0, 0, 0, 0, []),
  (69, .iload 5, 2, 5, 0, 0, 0, 0, []),
  (71, .iadd, 1, 0, 0, 0, 0, 0, []),
  (72, .iaload, 1, 0, 0, 0, 0, 0, []),
  (73, .if_icmp .le 7, 3, 80, 0, 0, 0, 0, []),
  (76, .iload 6, 2, 6, 0, 0, 0, 0, []),
  (78, .istore 5, 2, 5, 0, 0, 0, 0, []),
  (80, .iinc 6 1, 3, 6, 0, 0, 0, 1, []),
  (83, .goto (-77), 3, 6, 0, 0, 0, 0, []),
  (86, .iload 5, 2, 5, 0, 0, 0, 0, []),
  (88, .ireturn, 1, 0, 0, 0, 0, 0, [])]
abbrev kMo_laysPlaces : Nat := 158
def cMo_laysPlaces : List xE := [(0, .aload_n 0, 1, 0, 0, 0, 0, 0, []),
  (1, .iconst 0, 1, 0, 0, 0, 0, 0, []),
  (2, .putfield 167, 3, 9, 12, 0, 0, 0, [157]),
  (5, .aload_n 0, 1, 0, 0, 0, 0, 0, []),
  (6, .lconst 0, 1, 0, 0, 0, 0, 0, []),
  (7, .invokevirtual 178, 3, 154, 2, 5, 0, 9, [150]),
  (10, .iconst 0, 1, 0, 0, 0, 0, 0, []),
  (11, .istore_n 3, 1, 3, 0, 0, 0, 0, []),
  (12, .iload_n 3, 1, 3, 0, 0, 0, 0, []),
  (13, .aload_n 1, 1, 1, 0, 0, 0, 0, []),
  (14, .iload_n 2, 1, 2, 0, 0, 0, 0, []),
  (15, .iconst 0, 1, 0, 0, 0, 0, 0, []),
  (16, .iadd, 1, 0, 0, 0, 0, 0, []),
  (17, .iaload, 1, 0, 0, 0, 0, 0, []),
  (18, .if_icmp .ge 29, 3, 47, 0, 0, 0, 0, []),
  (21, .aload_n 0, 1, 0, 0, 0, 0, 0, []),
  (22, .aload_n 1, 1, 1, 0, 0, 0, 0, []),
  (23, .iload_n 2, 1, 2, 0, 0, 0, 0, []),
  (24, .iload_n 3, 1, 3, 0, 0, 0, 0, []),
  (25, .invokestatic 171, 3, 155, 3, 3, 1, 0, [148]),
  (28, .invokevirtual 178, 3, 154, 2, 5, 0, 9, [150]),
  (31, .aload_n 0, 1, 0, 0, 0, 0, 0, []),
  (32, .aload_n 1, 1, 1, 0, 0, 0, 0, []),
  (33, .iload_n 2, 1, 2, 0, 0, 0, 0, []),
  (34, .iload_n 3, 1, 3, 0, 0, 0, 0, []),
  (35, .invokestatic 175, 3, 156, 3, 3, 1, 0, [149]),
  (38, .invokevirtual 178, 3, 154, 2, 5, 0, 9, [150]),
  (41, .iinc 3 1, 3, 3, 0, 0, 0, 1, []),
  (44, .goto (-32), 3, 12, 0, 0, 0, 0, []),
  (47, .iconst 0, 1, 0, 0, 0, 0, 0, []),
  (48, .istore_n 3, 1, 3, 0, 0, 0, 0, []),
  (49, .iload_n 3, 1, 3, 0, 0, 0, 0, []),
  (50, .aload_n 0, 1, 0, 0, 0, 0, 0, []),
  (51, .getfield 167, 3, 9, 12, 0, 0, 0, [157]),
  (54, .if_icmp .ge 27, 3, 81, 0, 0, 0, 0, []),
  (57, .aload_n 0, 1, 0, 0, 0, 0, 0, []),
  (58, .getfield 45, 3, 9, 14, 3, 124, 12, [136]),
  (61, .iload_n 3, 1, 3, 0, 0, 0, 0, []),
  (62, .aload_n 1, 1, 1, 0, 0, 0, 0, []),
  (63, .iload_n 2, 1, 2, 0, 0, 0, 0, []),
  (64, .aload_n 0, 1, 0, 0, 0, 0, 0, []),
  (65, .getfield 42, 3, 9, 13, 4, 124, 11, [135]),
  (68, .iload_n 3, 1, 3, 0, 0, 0, 0, []),
  (69, .laload, 1, 0, 0, 0, 0, 0, []),
  (70, .iconst (-1), 1, 0, 0, 0, 0, (-1), []),
  (71, .invokestatic 182, 3, 157, 4, 7, 1, 0, [151]),
  (74, .iastore, 1, 0, 0, 0, 0, 0, []),
  (75, .iinc 3 1, 3, 3, 0, 0, 0, 1, []),
  (78, .goto (-29), 3, 49, 0, 0, 0, 0, []),
  (81, .return_, 1, 0, 0, 0, 0, 0, [])]
abbrev kMo_codeBy : Nat := 159
def cMo_codeBy : List xE := [(0, .iload_n 2, 1, 2, 0, 0, 0, 0, []),
  (1, .iconst (-1), 1, 0, 0, 0, 0, (-1), []),
  (2, .if_icmp .ne 7, 3, 9, 0, 0, 0, 0, []),
  (5, .iconst (-1), 1, 0, 0, 0, 0, (-1), []),
  (6, .goto 19, 3, 25, 0, 0, 0, 0, []),
  (9, .aload_n 0, 1, 0, 0, 0, 0, 0, []),
  (10, .iload_n 1, 1, 1, 0, 0, 0, 0, []),
  (11, .sipush 182, 3, 0, 0, 0, 0, 182, []),
  (14, .iadd, 1, 0, 0, 0, 0, 0, []),
  (15, .aload_n 0, 1, 0, 0, 0, 0, 0, []),
  (16, .iload_n 1, 1, 1, 0, 0, 0, 0, []),
  (17, .bipush 122, 2, 0, 0, 0, 0, 122, []),
  (19, .iadd, 1, 0, 0, 0, 0, 0, []),
  (20, .iload_n 2, 1, 2, 0, 0, 0, 0, []),
  (21, .iadd, 1, 0, 0, 0, 0, 0, []),
  (22, .iaload, 1, 0, 0, 0, 0, 0, []),
  (23, .iadd, 1, 0, 0, 0, 0, 0, []),
  (24, .iaload, 1, 0, 0, 0, 0, 0, []),
  (25, .ireturn, 1, 0, 0, 0, 0, 0, [])]
abbrev kMo_laysTable : Nat := 160
def cMo_laysTable : List xE := [(0, .aload_n 0, 1, 0, 0, 0, 0, 0, []),
  (1, .aload_n 2, 1, 2, 0, 0, 0, 0, []),
  (2, .iload_n 3, 1, 3, 0, 0, 0, 0, []),
  (3, .invokevirtual 186, 3, 158, 3, 4, 0, 9, [152]),
  (6, .iconst 0, 1, 0, 0, 0, 0, 0, []),
  (7, .istore 4, 2, 4, 0, 0, 0, 0, []),
  (9, .iconst 0, 1, 0, 0, 0, 0, 0, []),
  (10, .istore 5, 2, 5, 0, 0, 0, 0, []),
  (12, .iload 5, 2, 5, 0, 0, 0, 0, []),
  (14, .aload_n 0, 1, 0, 0, 0, 0, 0, []),
  (15, .getfield 167, 3, 9, 12, 0, 0, 0, [157]),
  (18, .if_icmp .ge 86, 3, 104, 0, 0, 0, 0, []),
  (21, .aload_n 2, 1, 2, 0, 0, 0, 0, []),
  (22, .iload_n 3, 1, 3, 0, 0, 0, 0, []),
  (23, .aload_n 0, 1, 0, 0, 0, 0, 0, []),
  (24, .getfield 45, 3, 9, 14, 3, 124, 12, [136]),
  (27, .iload 5, 2, 5, 0, 0, 0, 0, []),
  (29, .iaload, 1, 0, 0, 0, 0, 0, []),
  (30, .invokestatic 190, 3, 159, 3, 3, 1, 0, [153]),
  (33, .istore 6, 2, 6, 0, 0, 0, 0, []),
  (35, .iload 4, 2, 4, 0, 0, 0, 0, []),
  (37, .ifCond .le 25, 3, 62, 0, 0, 0, 0, []),
  (40, .aload_n 0, 1, 0, 0, 0, 0, 0, []),
  (41, .getfield 30, 3, 9, 8, 3, 248, 7, [131]),
  (44, .bipush 124, 2, 0, 0, 0, 0, 124, []),
  (46, .iload_n 1, 1, 1, 0, 0, 0, 0, []),
  (47, .imul, 1, 0, 0, 0, 0, 0, []),
  (48, .iload 4, 2, 4, 0, 0, 0, 0, []),
  (50, .iadd, 1, 0, 0, 0, 0, 0, []),
  (51, .iconst 1, 1, 0, 0, 0, 0, 1, []),
  (52, .isub, 1, 0, 0, 0, 0, 0, []),
  (53, .iaload, 1, 0, 0, 0, 0, 0, []),
  (54, .iload 6, 2, 6, 0, 0, 0, 0, []),
  (56, .if_icmp .ne 6, 3, 62, 0, 0, 0, 0, []),
  (59, .goto 39, 3, 98, 0, 0, 0, 0, []),
  (62, .aload_n 0, 1, 0, 0, 0, 0, 0, []),
  (63, .getfield 26, 3, 9, 7, 4, 248, 6, [130]),
  (66, .bipush 124, 2, 0, 0, 0, 0, 124, []),
  (68, .iload_n 1, 1, 1, 0, 0, 0, 0, []),
  (69, .imul, 1, 0, 0, 0, 0, 0, []),
  (70, .iload 4, 2, 4, 0, 0, 0, 0, []),
  (72, .iadd, 1, 0, 0, 0, 0, 0, []),
  (73, .aload_n 0, 1, 0, 0, 0, 0, 0, []),
  (74, .getfield 42, 3, 9, 13, 4, 124, 11, [135]),
  (77, .iload 5, 2, 5, 0, 0, 0, 0, []),
  (79, .laload, 1, 0, 0, 0, 0, 0, []),
  (80, .lastore, 1, 0, 0, 0, 0, 0, []),
  (81, .aload_n 0, 1, 0, 0, 0, 0, 0, []),
  (82, .getfield 30, 3, 9, 8, 3, 248, 7, [131]),
  (85, .bipush 124, 2, 0, 0, 0, 0, 124, []),
  (87, .iload_n 1, 1, 1, 0, 0, 0, 0, []),
  (88, .imul, 1, 0, 0, 0, 0, 0, []),
  (89, .iload 4, 2, 4, 0, 0, 0, 0, []),
  (91, .iadd, 1, 0, 0, 0, 0, 0, []),
  (92, .iload 6, 2, 6, 0, 0, 0, 0, []),
  (94, .iastore, 1, 0, 0, 0, 0, 0, []),
  (95, .iinc 4 1, 3, 4, 0, 0, 0, 1, []),
  (98, .iinc 5 1, 3, 5, 0, 0, 0, 1, []),
  (101, .goto (-89), 3, 12, 0, 0, 0, 0, []),
  (104, .aload_n 0, 1, 0, 0, 0, 0, 0, []),
  (105, .getfield 23, 3, 9, 6, 3, 2, 5, [129]),
  (108, .iload_n 1, 1, 1, 0, 0, 0, 0, []),
  (109, .iload 4, 2, 4, 0, 0, 0, 0, []),
  (111, .iastore, 1, 0, 0, 0, 0, 0, []),
  (112, .aload_n 0, 1, 0, 0, 0, 0, 0, []),
  (113, .getfield 33, 3, 9, 9, 3, 2, 8, [132]),
  (116, .iload_n 1, 1, 1, 0, 0, 0, 0, []),
  (117, .aload_n 2, 1, 2, 0, 0, 0, 0, []),
  (118, .iload_n 3, 1, 3, 0, 0, 0, 0, []),
  (119, .iconst 1, 1, 0, 0, 0, 0, 1, []),
  (120, .iadd, 1, 0, 0, 0, 0, 0, []),
  (121, .iaload, 1, 0, 0, 0, 0, 0, []),
  (122, .iastore, 1, 0, 0, 0, 0, 0, []),
  (123, .aload_n 0, 1, 0, 0, 0, 0, 0, []),
  (124, .getfield 39, 3, 9, 11, 3, 34, 10, [134]),
  (127, .bipush 17, 2, 0, 0, 0, 0, 17, []),
  (129, .iload_n 1, 1, 1, 0, 0, 0, 0, []),
  (130, .imul, 1, 0, 0, 0, 0, 0, []),
  (131, .iconst 0, 1, 0, 0, 0, 0, 0, []),
  (132, .iastore, 1, 0, 0, 0, 0, 0, []),
  (133, .iconst 0, 1, 0, 0, 0, 0, 0, []),
  (134, .istore 5, 2, 5, 0, 0, 0, 0, []),
  (136, .iload 5, 2, 5, 0, 0, 0, 0, []),
  (138, .aload_n 2, 1, 2, 0, 0, 0, 0, []),
  (139, .iload_n 3, 1, 3, 0, 0, 0, 0, []),
  (140, .iconst 1, 1, 0, 0, 0, 0, 1, []),
  (141, .iadd, 1, 0, 0, 0, 0, 0, []),
  (142, .iaload, 1, 0, 0, 0, 0, 0, []),
  (143, .if_icmp .ge 68, 3, 211, 0, 0, 0, 0, []),
  (146, .aload_n 0, 1, 0, 0, 0, 0, 0, []),
  (147, .getfield 36, 3, 9, 10, 3, 32, 9, [133]),
  (150, .bipush 16, 2, 0, 0, 0, 0, 16, []),
  (152, .iload_n 1, 1, 1, 0, 0, 0, 0, []),
  (153, .imul, 1, 0, 0, 0, 0, 0, []),
  (154, .iload 5, 2, 5, 0, 0, 0, 0, []),
  (156, .iadd, 1, 0, 0, 0, 0, 0, []),
  (157, .aload_n 2, 1, 2, 0, 0, 0, 0, []),
  (158, .iload_n 3, 1, 3, 0, 0, 0, 0, []),
  (159, .sipush 243, 3, 0, 0, 0, 0, 243, []),
  (162, .iadd, 1, 0, 0, 0, 0, 0, []),
  (163, .iload 5, 2, 5, 0, 0, 0, 0, []),
  (165, .iadd, 1, 0, 0, 0, 0, 0, []),
  (166, .iaload, 1, 0, 0, 0, 0, 0, []),
  (167, .iastore, 1, 0, 0, 0, 0, 0, []),
  (168, .aload_n 0, 1, 0, 0, 0, 0, 0, []),
  (169, .getfield 39, 3, 9, 11, 3, 34, 10, [134]),
  (172, .bipush 17, 2, 0, 0, 0, 0, 17, []),
  (174, .iload_n 1, 1, 1, 0, 0, 0, 0, []),
  (175, .imul, 1, 0, 0, 0, 0, 0, []),
  (176, .iload 5, 2, 5, 0, 0, 0, 0, []),
  (178, .iadd, 1, 0, 0, 0, 0, 0, []),
  (179, .iconst 1, 1, 0, 0, 0, 0, 1, []),
  (180, .iadd, 1, 0, 0, 0, 0, 0, []),
  (181, .aload_n 0, 1, 0, 0, 0, 0, 0, []),
  (182, .getfield 39, 3, 9, 11, 3, 34, 10, [134]),
  (185, .bipush 17, 2, 0, 0, 0, 0, 17, []),
  (187, .iload_n 1, 1, 1, 0, 0, 0, 0, []),
  (188, .imul, 1, 0, 0, 0, 0, 0, []),
  (189, .iload 5, 2, 5, 0, 0, 0, 0, []),
  (191, .iadd, 1, 0, 0, 0, 0, 0, []),
  (192, .iaload, 1, 0, 0, 0, 0, 0, []),
  (193, .aload_n 2, 1, 2, 0, 0, 0, 0, []),
  (194, .iload_n 3, 1, 3, 0, 0, 0, 0, []),
  (195, .sipush 243, 3, 0, 0, 0, 0, 243, []),
  (198, .iadd, 1, 0, 0, 0, 0, 0, []),
  (199, .iload 5, 2, 5, 0, 0, 0, 0, []),
  (201, .iadd, 1, 0, 0, 0, 0, 0, []),
  (202, .iaload, 1, 0, 0, 0, 0, 0, []),
  (203, .iadd, 1, 0, 0, 0, 0, 0, []),
  (204, .iastore, 1, 0, 0, 0, 0, 0, []),
  (205, .iinc 5 1, 3, 5, 0, 0, 0, 1, []),
  (208, .goto (-72), 3, 136, 0, 0, 0, 0, []),
  (211, .iload_n 1, 1, 1, 0, 0, 0, 0, []),
  (212, .ifCond .ne 7, 3, 219, 0, 0, 0, 0, []),
  (215, .aload_n 0, 1, 0, 0, 0, 0, 0, []),
  (216, .invokevirtual 194, 3, 167, 1, 9, 0, 9, [154]),
  (219, .return_, 1, 0, 0, 0, 0, 0, [])]
abbrev kMo_behindRow : Nat := 161
def cMo_behindRow : List xE := [(0, .iload_n 2, 1, 2, 0, 0, 0, 0, []),
  (1, .iconst 1, 1, 0, 0, 0, 0, 1, []),
  (2, .iadd, 1, 0, 0, 0, 0, 0, []),
  (3, .aload_n 0, 1, 0, 0, 0, 0, 0, []),
  (4, .getfield 23, 3, 9, 6, 3, 2, 5, [129]),
  (7, .iload_n 1, 1, 1, 0, 0, 0, 0, []),
  (8, .iaload, 1, 0, 0, 0, 0, 0, []),
  (9, .if_icmp .ge 19, 3, 28, 0, 0, 0, 0, []),
  (12, .aload_n 0, 1, 0, 0, 0, 0, 0, []),
  (13, .getfield 26, 3, 9, 7, 4, 248, 6, [130]),
  (16, .bipush 124, 2, 0, 0, 0, 0, 124, []),
  (18, .iload_n 1, 1, 1, 0, 0, 0, 0, []),
  (19, .imul, 1, 0, 0, 0, 0, 0, []),
  (20, .iload_n 2, 1, 2, 0, 0, 0, 0, []),
  (21, .iadd, 1, 0, 0, 0, 0, 0, []),
  (22, .iconst 1, 1, 0, 0, 0, 0, 1, []),
  (23, .iadd, 1, 0, 0, 0, 0, 0, []),
  (24, .laload, 1, 0, 0, 0, 0, 0, []),
  (25, .goto 6, 3, 31, 0, 0, 0, 0, []),
  (28, .ldc2_w 165, 3, 0, 0, 0, 0, 4294967296, [21]),
  (31, .lreturn, 1, 0, 0, 0, 0, 0, [])]
abbrev kMo_rowAt : Nat := 162
def cMo_rowAt : List xE := [(0, .iconst 0, 1, 0, 0, 0, 0, 0, []),
  (1, .istore 4, 2, 4, 0, 0, 0, 0, []),
  (3, .aload_n 0, 1, 0, 0, 0, 0, 0, []),
  (4, .getfield 23, 3, 9, 6, 3, 2, 5, [129]),
  (7, .iload_n 1, 1, 1, 0, 0, 0, 0, []),
  (8, .iaload, 1, 0, 0, 0, 0, 0, []),
  (9, .iconst 1, 1, 0, 0, 0, 0, 1, []),
  (10, .isub, 1, 0, 0, 0, 0, 0, []),
  (11, .istore 5, 2, 5, 0, 0, 0, 0, []),
  (13, .iload 4, 2, 4, 0, 0, 0, 0, []),
  (15, .iload 5, 2, 5, 0, 0, 0, 0, []),
  (17, .if_icmp .ge 47, 3, 64, 0, 0, 0, 0, []),
  (20, .iload 4, 2, 4, 0, 0, 0, 0, []),
  (22, .iload 5, 2, 5, 0, 0, 0, 0, []),
  (24, .iadd, 1, 0, 0, 0, 0, 0, []),
  (25, .iconst 1, 1, 0, 0, 0, 0, 1, []),
  (26, .iadd, 1, 0, 0, 0, 0, 0, []),
  (27, .iconst 2, 1, 0, 0, 0, 0, 2, []),
  (28, .idiv, 1, 0, 0, 0, 0, 0, []),
  (29, .istore 6, 2, 6, 0, 0, 0, 0, []),
  (31, .aload_n 0, 1, 0, 0, 0, 0, 0, []),
  (32, .getfield 26, 3, 9, 7, 4, 248, 6, [130]),
  (35, .bipush 124, 2, 0, 0, 0, 0, 124, []),
  (37, .iload_n 1, 1, 1, 0, 0, 0, 0, []),
  (38, .imul, 1, 0, 0, 0, 0, 0, []),
  (39, .iload 6, 2, 6, 0, 0, 0, 0, []),
  (41, .iadd, 1, 0, 0, 0, 0, 0, []),
  (42, .laload, 1, 0, 0, 0, 0, 0, []),
  (43, .lload_n 2, 1, 2, 0, 0, 0, 0, []),
  (44, .lcmp, 4, 55, 4, 0, 0, 0, []),
  (48, .iload 6, 2, 6, 0, 0, 0, 0, []),
  (50, .istore 4, 2, 4, 0, 0, 0, 0, []),
  (52, .goto 9, 3, 61, 0, 0, 0, 0, []),
  (55, .iload 6, 2, 6, 0, 0, 0, 0, []),
  (57, .iconst 1, 1, 0, 0, 0, 0, 1, []),
  (58, .isub, 1, 0, 0, 0, 0, 0, []),
  (59, .istore 5, 2, 5, 0, 0, 0, 0, []),
  (61, .goto (-48), 3, 13, 0, 0, 0, 0, []),
  (64, .iload 4, 2, 4, 0, 0, 0, 0, []),
  (66, .ireturn, 1, 0, 0, 0, 0, 0, [])]
abbrev kMo_isOne : Nat := 163
def cMo_isOne : List xE := [(0, .aload_n 0, 1, 0, 0, 0, 0, 0, []),
  (1, .iload_n 1, 1, 1, 0, 0, 0, 0, []),
  (2, .aload_n 0, 1, 0, 0, 0, 0, 0, []),
  (3, .iload_n 1, 1, 1, 0, 0, 0, 0, []),
  (4, .lload_n 2, 1, 2, 0, 0, 0, 0, []),
  (5, .invokevirtual 197, 3, 162, 3, 7, 1, 9, [155]),
  (8, .invokevirtual 201, 3, 161, 3, 3, 1, 9, [156]),
  (11, .lload_n 2, 1, 2, 0, 0, 0, 0, []),
  (12, .lload 4, 2, 4, 0, 0, 0, 0, []),
  (14, .ladd, 1, 0, 0, 0, 0, 0, []),
  (15, .lcmp, 4, 23, 2, 0, 0, 0, []),
  (19, .iconst 1, 1, 0, 0, 0, 0, 1, []),
  (20, .goto 4, 3, 24, 0, 0, 0, 0, []),
  (23, .iconst 0, 1, 0, 0, 0, 0, 0, []),
  (24, .ireturn, 1, 1, 0, 0, 0, 0, [])]
abbrev kMo_codeAt : Nat := 164
def cMo_codeAt : List xE := [(0, .aload_n 0, 1, 0, 0, 0, 0, 0, []),
  (1, .getfield 30, 3, 9, 8, 3, 248, 7, [131]),
  (4, .bipush 124, 2, 0, 0, 0, 0, 124, []),
  (6, .iload_n 1, 1, 1, 0, 0, 0, 0, []),
  (7, .imul, 1, 0, 0, 0, 0, 0, []),
  (8, .aload_n 0, 1, 0, 0, 0, 0, 0, []),
  (9, .iload_n 1, 1, 1, 0, 0, 0, 0, []),
  (10, .lload_n 2, 1, 2, 0, 0, 0, 0, []),
  (11, .invokevirtual 197, 3, 162, 3, 7, 1, 9, [155]),
  (14, .iadd, 1, 0, 0, 0, 0, 0, []),
  (15, .iaload, 1, 0, 0, 0, 0, 0, []),
  (16, .ireturn, 1, 0, 0, 0, 0, 0, [])]
abbrev kMo_lengthAt : Nat := 165
def cMo_lengthAt : List xE := [(0, .aload_n 0, 1, 0, 0, 0, 0, 0, []),
  (1, .getfield 39, 3, 9, 11, 3, 34, 10, [134]),
  (4, .bipush 17, 2, 0, 0, 0, 0, 17, []),
  (6, .iload_n 1, 1, 1, 0, 0, 0, 0, []),
  (7, .imul, 1, 0, 0, 0, 0, 0, []),
  (8, .iload_n 2, 1, 2, 0, 0, 0, 0, []),
  (9, .iadd, 1, 0, 0, 0, 0, 0, []),
  (10, .iaload, 1, 0, 0, 0, 0, 0, []),
  (11, .ireturn, 1, 0, 0, 0, 0, 0, [])]
abbrev kMo_addsNode : Nat := 166
def cMo_addsNode : List xE := [(0, .aload_n 0, 1, 0, 0, 0, 0, 0, []),
  (1, .getfield 48, 3, 9, 16, 3, 2000, 13, [137]),
  (4, .aload_n 0, 1, 0, 0, 0, 0, 0, []),
  (5, .getfield 205, 3, 9, 15, 0, 0, 0, [158]),
  (8, .iload_n 1, 1, 1, 0, 0, 0, 0, []),
  (9, .iastore, 1, 0, 0, 0, 0, 0, []),
  (10, .aload_n 0, 1, 0, 0, 0, 0, 0, []),
  (11, .getfield 51, 3, 9, 17, 4, 2000, 14, [138]),
  (14, .aload_n 0, 1, 0, 0, 0, 0, 0, []),
  (15, .getfield 205, 3, 9, 15, 0, 0, 0, [158]),
  (18, .lload_n 2, 1, 2, 0, 0, 0, 0, []),
  (19, .lastore, 1, 0, 0, 0, 0, 0, []),
  (20, .aload_n 0, 1, 0, 0, 0, 0, 0, []),
  (21, .dup, 1, 0, 0, 0, 0, 0, []),
  (22, .getfield 205, 3, 9, 15, 0, 0, 0, [158]),
  (25, .iconst 1, 1, 0, 0, 0, 0, 1, []),
  (26, .iadd, 1, 0, 0, 0, 0, 0, []),
  (27, .putfield 205, 3, 9, 15, 0, 0, 0, [158]),
  (30, .return_, 1, 0, 0, 0, 0, 0, [])]
abbrev kMo_laysNodes : Nat := 167
def cMo_laysNodes : List xE := [(0, .aload_n 0, 1, 0, 0, 0, 0, 0, []),
  (1, .iconst 0, 1, 0, 0, 0, 0, 0, []),
  (2, .putfield 208, 3, 9, 19, 0, 1, 0, [159]),
  (5, .aload_n 0, 1, 0, 0, 0, 0, 0, []),
  (6, .iconst 0, 1, 0, 0, 0, 0, 0, []),
  (7, .putfield 205, 3, 9, 15, 0, 0, 0, [158]),
  (10, .aload_n 0, 1, 0, 0, 0, 0, 0, []),
  (11, .getfield 54, 3, 9, 18, 3, 18, 15, [139]),
  (14, .iconst 0, 1, 0, 0, 0, 0, 0, []),
  (15, .iconst 0, 1, 0, 0, 0, 0, 0, []),
  (16, .iastore, 1, 0, 0, 0, 0, 0, []),
  (17, .aload_n 0, 1, 0, 0, 0, 0, 0, []),
  (18, .iconst 0, 1, 0, 0, 0, 0, 0, []),
  (19, .lconst 0, 1, 0, 0, 0, 0, 0, []),
  (20, .invokevirtual 212, 3, 166, 3, 4, 0, 9, [157]),
  (23, .iconst 1, 1, 0, 0, 0, 0, 1, []),
  (24, .istore_n 1, 1, 1, 0, 0, 0, 0, []),
  (25, .iload_n 1, 1, 1, 0, 0, 0, 0, []),
  (26, .aload_n 0, 1, 0, 0, 0, 0, 0, []),
  (27, .getfield 33, 3, 9, 9, 3, 2, 8, [132]),
  (30, .iconst 0, 1, 0, 0, 0, 0, 0, []),
  (31, .iaload, 1, 0, 0, 0, 0, 0, []),
  (32, .if_icmp .ge 119, 3, 151, 0, 0, 0, 0, []),
  (35, .aload_n 0, 1, 0, 0, 0, 0, 0, []),
  (36, .getfield 54, 3, 9, 18, 3, 18, 15, [139]),
  (39, .iload_n 1, 1, 1, 0, 0, 0, 0, []),
  (40, .aload_n 0, 1, 0, 0, 0, 0, 0, []),
  (41, .getfield 205, 3, 9, 15, 0, 0, 0, [158]),
  (44, .iastore, 1, 0, 0, 0, 0, 0, []),
  (45, .aload_n 0, 1, 0, 0, 0, 0, 0, []),
  (46, .iconst 0, 1, 0, 0, 0, 0, 0, []),
  (47, .iload_n 1, 1, 1, 0, 0, 0, 0, []),
  (48, .invokevirtual 216, 3, 165, 3, 3, 1, 9, [158]),
  (51, .invokestatic 129, 3, 141, 1, 1, 1, 0, [139]),
  (54, .lstore_n 2, 1, 2, 0, 0, 0, 0, []),
  (55, .iconst 1, 1, 0, 0, 0, 0, 1, []),
  (56, .istore 4, 2, 4, 0, 0, 0, 0, []),
  (58, .iload 4, 2, 4, 0, 0, 0, 0, []),
  (60, .aload_n 0, 1, 0, 0, 0, 0, 0, []),
  (61, .getfield 23, 3, 9, 6, 3, 2, 5, [129]),
  (64, .iconst 0, 1, 0, 0, 0, 0, 0, []),
  (65, .iaload, 1, 0, 0, 0, 0, 0, []),
  (66, .if_icmp .ge 79, 3, 145, 0, 0, 0, 0, []),
  (69, .aload_n 0, 1, 0, 0, 0, 0, 0, []),
  (70, .getfield 26, 3, 9, 7, 4, 248, 6, [130]),
  (73, .iload 4, 2, 4, 0, 0, 0, 0, []),
  (75, .laload, 1, 0, 0, 0, 0, 0, []),
  (76, .lload_n 2, 1, 2, 0, 0, 0, 0, []),
  (77, .lrem, 1, 0, 0, 0, 0, 0, []),
  (78, .lstore 5, 2, 5, 0, 0, 0, 0, []),
  (80, .aload_n 0, 1, 0, 0, 0, 0, 0, []),
  (81, .getfield 26, 3, 9, 7, 4, 248, 6, [130]),
  (84, .iload 4, 2, 4, 0, 0, 0, 0, []),
  (86, .laload, 1, 0, 0, 0, 0, 0, []),
  (87, .lload 5, 2, 5, 0, 0, 0, 0, []),
  (89, .lsub, 1, 0, 0, 0, 0, 0, []),
  (90, .lstore 7, 2, 7, 0, 0, 0, 0, []),
  (92, .lload 5, 2, 5, 0, 0, 0, 0, []),
  (94, .lconst 0, 1, 0, 0, 0, 0, 0, []),
  (95, .lcmp, 4, 139, 0, 0, 0, 0, []),
  (99, .aload_n 0, 1, 0, 0, 0, 0, 0, []),
  (100, .getfield 205, 3, 9, 15, 0, 0, 0, [158]),
  (103, .aload_n 0, 1, 0, 0, 0, 0, 0, []),
  (104, .getfield 54, 3, 9, 18, 3, 18, 15, [139]),
  (107, .iload_n 1, 1, 1, 0, 0, 0, 0, []),
  (108, .iaload, 1, 0, 0, 0, 0, 0, []),
  (109, .if_icmp .le 23, 3, 132, 0, 0, 0, 0, []),
  (112, .aload_n 0, 1, 0, 0, 0, 0, 0, []),
  (113, .getfield 51, 3, 9, 17, 4, 2000, 14, [138]),
  (116, .aload_n 0, 1, 0, 0, 0, 0, 0, []),
  (117, .getfield 205, 3, 9, 15, 0, 0, 0, [158]),
  (120, .iconst 1, 1, 0, 0, 0, 0, 1, []),
  (121, .isub, 1, 0, 0, 0, 0, 0, []),
  (122, .laload, 1, 0, 0, 0, 0, 0, []),
  (123, .lload 7, 2, 7, 0, 0, 0, 0, []),
  (125, .lcmp, 4, 132, 1, 0, 0, 0, []),
  (129, .goto 10, 3, 139, 0, 0, 0, 0, []),
  (132, .aload_n 0, 1, 0, 0, 0, 0, 0, []),
  (133, .iload_n 1, 1, 1, 0, 0, 0, 0, []),
  (134, .lload 7, 2, 7, 0, 0, 0, 0, []),
  (136, .invokevirtual 212, 3, 166, 3, 4, 0, 9, [157]),
  (139, .iinc 4 1, 3, 4, 0, 0, 0, 1, []),
  (142, .goto (-84), 3, 58, 0, 0, 0, 0, []),
  (145, .iinc 1 1, 3, 1, 0, 0, 0, 1, []),
  (148, .goto (-123), 3, 25, 0, 0, 0, 0, []),
  (151, .aload_n 0, 1, 0, 0, 0, 0, 0, []),
  (152, .getfield 54, 3, 9, 18, 3, 18, 15, [139]),
  (155, .aload_n 0, 1, 0, 0, 0, 0, 0, []),
  (156, .getfield 33, 3, 9, 9, 3, 2, 8, [132]),
  (159, .iconst 0, 1, 0, 0, 0, 0, 0, []),
  (160, .iaload, 1, 0, 0, 0, 0, 0, []),
  (161, .aload_n 0, 1, 0, 0, 0, 0, 0, []),
  (162, .getfield 205, 3, 9, 15, 0, 0, 0, [158]),
  (165, .iastore, 1, 0, 0, 0, 0, 0, []),
  (166, .return_, 1, 0, 0, 0, 0, 0, [])]
abbrev kMo_hasNode : Nat := 168
def cMo_hasNode : List xE := [(0, .iload_n 2, 1, 2, 0, 0, 0, 0, []),
  (1, .ifCond .ne 5, 3, 6, 0, 0, 0, 0, []),
  (4, .iconst 1, 1, 0, 0, 0, 0, 1, []),
  (5, .ireturn, 1, 1, 0, 0, 0, 0, []),
  (6, .iload_n 2, 1, 2, 0, 0, 0, 0, []),
  (7, .aload_n 0, 1, 0, 0, 0, 0, 0, []),
  (8, .getfield 33, 3, 9, 9, 3, 2, 8, [132]),
  (11, .iload_n 1, 1, 1, 0, 0, 0, 0, []),
  (12, .iaload, 1, 0, 0, 0, 0, 0, []),
  (13, .if_icmp .lt 5, 3, 18, 0, 0, 0, 0, []),
  (16, .iconst 0, 1, 0, 0, 0, 0, 0, []),
  (17, .ireturn, 1, 1, 0, 0, 0, 0, []),
  (18, .aload_n 0, 1, 0, 0, 0, 0, 0, []),
  (19, .iload_n 1, 1, 1, 0, 0, 0, 0, []),
  (20, .iload_n 2, 1, 2, 0, 0, 0, 0, []),
  (21, .invokevirtual 216, 3, 165, 3, 3, 1, 9, [158]),
  (24, .invokestatic 129, 3, 141, 1, 1, 1, 0, [139]),
  (27, .lstore 5, 2, 5, 0, 0, 0, 0, []),
  (29, .lload_n 3, 1, 3, 0, 0, 0, 0, []),
  (30, .lload 5, 2, 5, 0, 0, 0, 0, []),
  (32, .lrem, 1, 0, 0, 0, 0, 0, []),
  (33, .lconst 0, 1, 0, 0, 0, 0, 0, []),
  (34, .lcmp, 4, 53, 1, 0, 0, 0, []),
  (38, .aload_n 0, 1, 0, 0, 0, 0, 0, []),
  (39, .iload_n 1, 1, 1, 0, 0, 0, 0, []),
  (40, .lload_n 3, 1, 3, 0, 0, 0, 0, []),
  (41, .lload 5, 2, 5, 0, 0, 0, 0, []),
  (43, .invokevirtual 220, 3, 163, 4, 6, 1, 9, [159]),
  (46, .ifCond .ne 7, 3, 53, 0, 0, 0, 0, []),
  (49, .iconst 1, 1, 0, 0, 0, 0, 1, []),
  (50, .goto 4, 3, 54, 0, 0, 0, 0, []),
  (53, .iconst 0, 1, 0, 0, 0, 0, 0, []),
  (54, .ireturn, 1, 1, 0, 0, 0, 0, [])]
abbrev kMo_nodeAt : Nat := 169
def cMo_nodeAt : List xE := [(0, .aload_n 0, 1, 0, 0, 0, 0, 0, []),
  (1, .iconst 0, 1, 0, 0, 0, 0, 0, []),
  (2, .iload_n 1, 1, 1, 0, 0, 0, 0, []),
  (3, .invokevirtual 216, 3, 165, 3, 3, 1, 9, [158]),
  (6, .invokestatic 129, 3, 141, 1, 1, 1, 0, [139]),
  (9, .lstore 4, 2, 4, 0, 0, 0, 0, []),
  (11, .lload_n 2, 1, 2, 0, 0, 0, 0, []),
  (12, .lload_n 2, 1, 2, 0, 0, 0, 0, []),
  (13, .lload 4, 2, 4, 0, 0, 0, 0, []),
  (15, .lrem, 1, 0, 0, 0, 0, 0, []),
  (16, .lsub, 1, 0, 0, 0, 0, 0, []),
  (17, .lstore 6, 2, 6, 0, 0, 0, 0, []),
  (19, .aload_n 0, 1, 0, 0, 0, 0, 0, []),
  (20, .getfield 54, 3, 9, 18, 3, 18, 15, [139]),
  (23, .iload_n 1, 1, 1, 0, 0, 0, 0, []),
  (24, .iaload, 1, 0, 0, 0, 0, 0, []),
  (25, .istore 8, 2, 8, 0, 0, 0, 0, []),
  (27, .iload 8, 2, 8, 0, 0, 0, 0, []),
  (29, .aload_n 0, 1, 0, 0, 0, 0, 0, []),
  (30, .getfield 54, 3, 9, 18, 3, 18, 15, [139]),
  (33, .iload_n 1, 1, 1, 0, 0, 0, 0, []),
  (34, .iconst 1, 1, 0, 0, 0, 0, 1, []),
  (35, .iadd, 1, 0, 0, 0, 0, 0, []),
  (36, .iaload, 1, 0, 0, 0, 0, 0, []),
  (37, .if_icmp .ge 25, 3, 62, 0, 0, 0, 0, []),
  (40, .aload_n 0, 1, 0, 0, 0, 0, 0, []),
  (41, .getfield 51, 3, 9, 17, 4, 2000, 14, [138]),
  (44, .iload 8, 2, 8, 0, 0, 0, 0, []),
  (46, .laload, 1, 0, 0, 0, 0, 0, []),
  (47, .lload 6, 2, 6, 0, 0, 0, 0, []),
  (49, .lcmp, 4, 56, 1, 0, 0, 0, []),
  (53, .iload 8, 2, 8, 0, 0, 0, 0, []),
  (55, .ireturn, 1, 0, 0, 0, 0, 0, []),
  (56, .iinc 8 1, 3, 8, 0, 0, 0, 1, []),
  (59, .goto (-32), 3, 27, 0, 0, 0, 0, []),
  (62, .iconst (-1), 1, 0, 0, 0, 0, (-1), []),
  (63, .ireturn, 1, 0, 0, 0, 0, 0, [])]
abbrev kMo_slotsAt : Nat := 170
def cMo_slotsAt : List xE := [(0, .iconst 1, 1, 0, 0, 0, 0, 1, []),
  (1, .aload_n 0, 1, 0, 0, 0, 0, 0, []),
  (2, .getfield 36, 3, 9, 10, 3, 32, 9, [133]),
  (5, .bipush 16, 2, 0, 0, 0, 0, 16, []),
  (7, .iload_n 1, 1, 1, 0, 0, 0, 0, []),
  (8, .imul, 1, 0, 0, 0, 0, 0, []),
  (9, .iload_n 2, 1, 2, 0, 0, 0, 0, []),
  (10, .iadd, 1, 0, 0, 0, 0, 0, []),
  (11, .iaload, 1, 0, 0, 0, 0, 0, []),
  (12, .ishl, 1, 0, 0, 0, 0, 0, []),
  (13, .ireturn, 1, 0, 0, 0, 0, 0, [])]
abbrev kMo_slotSize : Nat := 171
def cMo_slotSize : List xE := [(0, .aload_n 0, 1, 0, 0, 0, 0, 0, []),
  (1, .iload_n 1, 1, 1, 0, 0, 0, 0, []),
  (2, .iload_n 2, 1, 2, 0, 0, 0, 0, []),
  (3, .iconst 1, 1, 0, 0, 0, 0, 1, []),
  (4, .iadd, 1, 0, 0, 0, 0, 0, []),
  (5, .invokevirtual 216, 3, 165, 3, 3, 1, 9, [158]),
  (8, .invokestatic 129, 3, 141, 1, 1, 1, 0, [139]),
  (11, .lreturn, 1, 0, 0, 0, 0, 0, [])]
abbrev kMo_reads : Nat := 172
def cMo_reads : List xE := [(0, .aload_n 0, 1, 0, 0, 0, 0, 0, []),
  (1, .lconst 0, 1, 0, 0, 0, 0, 0, []),
  (2, .putfield 224, 3, 9, 20, 1, 0, 0, [160]),
  (5, .aload_n 0, 1, 0, 0, 0, 0, 0, []),
  (6, .lconst 0, 1, 0, 0, 0, 0, 0, []),
  (7, .putfield 228, 3, 9, 21, 1, 0, 0, [161]),
  (10, .aload_n 0, 1, 0, 0, 0, 0, 0, []),
  (11, .iconst 0, 1, 0, 0, 0, 0, 0, []),
  (12, .putfield 231, 3, 9, 22, 0, 0, 0, [162]),
  (15, .aload_n 0, 1, 0, 0, 0, 0, 0, []),
  (16, .iload_n 1, 1, 1, 0, 0, 0, 0, []),
  (17, .iload_n 2, 1, 2, 0, 0, 0, 0, []),
  (18, .invokevirtual 234, 3, 171, 3, 3, 1, 9, [160]),
  (21, .lstore 5, 2, 5, 0, 0, 0, 0, []),
  (23, .iconst 0, 1, 0, 0, 0, 0, 0, []),
  (24, .istore 7, 2, 7, 0, 0, 0, 0, []),
  (26, .iload 7, 2, 7, 0, 0, 0, 0, []),
  (28, .aload_n 0, 1, 0, 0, 0, 0, 0, []),
  (29, .iload_n 1, 1, 1, 0, 0, 0, 0, []),
  (30, .iload_n 2, 1, 2, 0, 0, 0, 0, []),
  (31, .invokevirtual 237, 3, 170, 3, 3, 1, 9, [161]),
  (34, .if_icmp .ge 116, 3, 150, 0, 0, 0, 0, []),
  (37, .lload_n 3, 1, 3, 0, 0, 0, 0, []),
  (38, .iload 7, 2, 7, 0, 0, 0, 0, []),
  (40, .i2l, 1, 0, 0, 0, 0, 0, []),
  (41, .lload 5, 2, 5, 0, 0, 0, 0, []),
  (43, .lmul, 1, 0, 0, 0, 0, 0, []),
  (44, .ladd, 1, 0, 0, 0, 0, 0, []),
  (45, .lstore 8, 2, 8, 0, 0, 0, 0, []),
  (47, .aload_n 0, 1, 0, 0, 0, 0, 0, []),
  (48, .iload_n 1, 1, 1, 0, 0, 0, 0, []),
  (49, .lload 8, 2, 8, 0, 0, 0, 0, []),
  (51, .lload 5, 2, 5, 0, 0, 0, 0, []),
  (53, .invokevirtual 220, 3, 163, 4, 6, 1, 9, [159]),
  (56, .ifCond .ne 19, 3, 75, 0, 0, 0, 0, []),
  (59, .aload_n 0, 1, 0, 0, 0, 0, 0, []),
  (60, .dup, 1, 0, 0, 0, 0, 0, []),
  (61, .getfield 224, 3, 9, 20, 1, 0, 0, [160]),
  (64, .lconst 1, 1, 0, 0, 0, 0, 1, []),
  (65, .iload 7, 2, 7, 0, 0, 0, 0, []),
  (67, .lshl, 1, 0, 0, 0, 0, 0, []),
  (68, .lor, 1, 0, 0, 0, 0, 0, []),
  (69, .putfield 224, 3, 9, 20, 1, 0, 0, [160]),
  (72, .goto 72, 3, 144, 0, 0, 0, 0, []),
  (75, .aload_n 0, 1, 0, 0, 0, 0, 0, []),
  (76, .iload_n 1, 1, 1, 0, 0, 0, 0, []),
  (77, .lload 8, 2, 8, 0, 0, 0, 0, []),
  (79, .invokevirtual 240, 3, 164, 3, 4, 1, 9, [162]),
  (82, .istore 10, 2, 10, 0, 0, 0, 0, []),
  (84, .aload_n 0, 1, 0, 0, 0, 0, 0, []),
  (85, .getfield 231, 3, 9, 22, 0, 0, 0, [162]),
  (88, .ifCond .le 22, 3, 110, 0, 0, 0, 0, []),
  (91, .aload_n 0, 1, 0, 0, 0, 0, 0, []),
  (92, .getfield 57, 3, 9, 23, 3, 64, 16, [140]),
  (95, .aload_n 0, 1, 0, 0, 0, 0, 0, []),
  (96, .getfield 231, 3, 9, 22, 0, 0, 0, [162]),
  (99, .iconst 1, 1, 0, 0, 0, 0, 1, []),
  (100, .isub, 1, 0, 0, 0, 0, 0, []),
  (101, .iaload, 1, 0, 0, 0, 0, 0, []),
  (102, .iload 10, 2, 10, 0, 0, 0, 0, []),
  (104, .if_icmp .ne 6, 3, 110, 0, 0, 0, 0, []),
  (107, .goto 37, 3, 144, 0, 0, 0, 0, []),
  (110, .aload_n 0, 1, 0, 0, 0, 0, 0, []),
  (111, .dup, 1, 0, 0, 0, 0, 0, []),
  (112, .getfield 228, 3, 9, 21, 1, 0, 0, [161]),
  (115, .lconst 1, 1, 0, 0, 0, 0, 1, []),
  (116, .iload 7, 2, 7, 0, 0, 0, 0, []),
  (118, .lshl, 1, 0, 0, 0, 0, 0, []),
  (119, .lor, 1, 0, 0, 0, 0, 0, []),
  (120, .putfield 228, 3, 9, 21, 1, 0, 0, [161]),
  (123, .aload_n 0, 1, 0, 0, 0, 0, 0, []),
  (124, .getfield 57, 3, 9, 23, 3, 64, 16, [140]),
  (127, .aload_n 0, 1, 0, 0, 0, 0, 0, []),
  (128, .getfield 231, 3, 9, 22, 0, 0, 0, [162]),
  (131, .iload 10, 2, 10, 0, 0, 0, 0, []),
  (133, .iastore, 1, 0, 0, 0, 0, 0, []),
  (134, .aload_n 0, 1, 0, 0, 0, 0, 0, []),
  (135, .dup, 1, 0, 0, 0, 0, 0, []),
  (136, .getfield 231, 3, 9, 22, 0, 0, 0, [162]),
  (139, .iconst 1, 1, 0, 0, 0, 0, 1, []),
  (140, .iadd, 1, 0, 0, 0, 0, 0, []),
  (141, .putfield 231, 3, 9, 22, 0, 0, 0, [162]),
  (144, .iinc 7 1, 3, 7, 0, 0, 0, 1, []),
  (147, .goto (-121), 3, 26, 0, 0, 0, 0, []),
  (150, .return_, 1, 0, 0, 0, 0, 0, [])]
abbrev kMo_isUnlike : Nat := 173
def cMo_isUnlike : List xE := [(0, .aload_n 0, 1, 0, 0, 0, 0, 0, []),
  (1, .iconst 1, 1, 0, 0, 0, 0, 1, []),
  (2, .iload_n 1, 1, 1, 0, 0, 0, 0, []),
  (3, .lload_n 2, 1, 2, 0, 0, 0, 0, []),
  (4, .invokevirtual 243, 3, 172, 4, 11, 0, 9, [163]),
  (7, .aload_n 0, 1, 0, 0, 0, 0, 0, []),
  (8, .aload_n 0, 1, 0, 0, 0, 0, 0, []),
  (9, .getfield 224, 3, 9, 20, 1, 0, 0, [160]),
  (12, .putfield 247, 3, 9, 24, 1, 0, 0, [163]),
  (15, .aload_n 0, 1, 0, 0, 0, 0, 0, []),
  (16, .aload_n 0, 1, 0, 0, 0, 0, 0, []),
  (17, .getfield 228, 3, 9, 21, 1, 0, 0, [161]),
  (20, .putfield 250, 3, 9, 25, 1, 0, 0, [164]),
  (23, .aload_n 0, 1, 0, 0, 0, 0, 0, []),
  (24, .aload_n 0, 1, 0, 0, 0, 0, 0, []),
  (25, .getfield 231, 3, 9, 22, 0, 0, 0, [162]),
  (28, .putfield 253, 3, 9, 26, 0, 0, 0, [165]),
  (31, .iconst 0, 1, 0, 0, 0, 0, 0, []),
  (32, .istore 4, 2, 4, 0, 0, 0, 0, []),
  (34, .iload 4, 2, 4, 0, 0, 0, 0, []),
  (36, .aload_n 0, 1, 0, 0, 0, 0, 0, []),
  (37, .getfield 231, 3, 9, 22, 0, 0, 0, [162]),
  (40, .if_icmp .ge 23, 3, 63, 0, 0, 0, 0, []),
  (43, .aload_n 0, 1, 0, 0, 0, 0, 0, []),
  (44, .getfield 60, 3, 9, 27, 3, 64, 17, [141]),
  (47, .iload 4, 2, 4, 0, 0, 0, 0, []),
  (49, .aload_n 0, 1, 0, 0, 0, 0, 0, []),
  (50, .getfield 57, 3, 9, 23, 3, 64, 16, [140]),
  (53, .iload 4, 2, 4, 0, 0, 0, 0, []),
  (55, .iaload, 1, 0, 0, 0, 0, 0, []),
  (56, .iastore, 1, 0, 0, 0, 0, 0, []),
  (57, .iinc 4 1, 3, 4, 0, 0, 0, 1, []),
  (60, .goto (-26), 3, 34, 0, 0, 0, 0, []),
  (63, .aload_n 0, 1, 0, 0, 0, 0, 0, []),
  (64, .iconst 0, 1, 0, 0, 0, 0, 0, []),
  (65, .iload_n 1, 1, 1, 0, 0, 0, 0, []),
  (66, .lload_n 2, 1, 2, 0, 0, 0, 0, []),
  (67, .invokevirtual 243, 3, 172, 4, 11, 0, 9, [163]),
  (70, .aload_n 0, 1, 0, 0, 0, 0, 0, []),
  (71, .getfield 224, 3, 9, 20, 1, 0, 0, [160]),
  (74, .aload_n 0, 1, 0, 0, 0, 0, 0, []),
  (75, .getfield 247, 3, 9, 24, 1, 0, 0, [163]),
  (78, .lcmp, 4, 105, 1, 0, 0, 0, []),
  (82, .aload_n 0, 1, 0, 0, 0, 0, 0, []),
  (83, .getfield 228, 3, 9, 21, 1, 0, 0, [161]),
  (86, .aload_n 0, 1, 0, 0, 0, 0, 0, []),
  (87, .getfield 250, 3, 9, 25, 1, 0, 0, [164]),
  (90, .lcmp, 4, 105, 1, 0, 0, 0, []),
  (94, .aload_n 0, 1, 0, 0, 0, 0, 0, []),
  (95, .getfield 231, 3, 9, 22, 0, 0, 0, [162]),
  (98, .aload_n 0, 1, 0, 0, 0, 0, 0, []),
  (99, .getfield 253, 3, 9, 26, 0, 0, 0, [165]),
  (102, .if_icmp .eq 5, 3, 107, 0, 0, 0, 0, []),
  (105, .iconst 1, 1, 0, 0, 0, 0, 1, []),
  (106, .ireturn, 1, 1, 0, 0, 0, 0, []),
  (107, .iconst 0, 1, 0, 0, 0, 0, 0, []),
  (108, .istore 4, 2, 4, 0, 0, 0, 0, []),
  (110, .iload 4, 2, 4, 0, 0, 0, 0, []),
  (112, .aload_n 0, 1, 0, 0, 0, 0, 0, []),
  (113, .getfield 231, 3, 9, 22, 0, 0, 0, [162]),
  (116, .if_icmp .ge 28, 3, 144, 0, 0, 0, 0, []),
  (119, .aload_n 0, 1, 0, 0, 0, 0, 0, []),
  (120, .getfield 57, 3, 9, 23, 3, 64, 16, [140]),
  (123, .iload 4, 2, 4, 0, 0, 0, 0, []),
  (125, .iaload, 1, 0, 0, 0, 0, 0, []),
  (126, .aload_n 0, 1, 0, 0, 0, 0, 0, []),
  (127, .getfield 60, 3, 9, 27, 3, 64, 17, [141]),
  (130, .iload 4, 2, 4, 0, 0, 0, 0, []),
  (132, .iaload, 1, 0, 0, 0, 0, 0, []),
  (133, .if_icmp .eq 5, 3, 138, 0, 0, 0, 0, []),
  (136, .iconst 1, 1, 0, 0, 0, 0, 1, []),
  (137, .ireturn, 1, 1, 0, 0, 0, 0, []),
  (138, .iinc 4 1, 3, 4, 0, 0, 0, 1, []),
  (141, .goto (-31), 3, 110, 0, 0, 0, 0, []),
  (144, .iconst 0, 1, 0, 0, 0, 0, 0, []),
  (145, .ireturn, 1, 1, 0, 0, 0, 0, [])]
abbrev kMo_othersNow : Nat := 174
def cMo_othersNow : List xE := [(0, .iconst 0, 1, 0, 0, 0, 0, 0, []),
  (1, .istore_n 1, 1, 1, 0, 0, 0, 0, []),
  (2, .iconst 0, 1, 0, 0, 0, 0, 0, []),
  (3, .istore_n 2, 1, 2, 0, 0, 0, 0, []),
  (4, .iload_n 2, 1, 2, 0, 0, 0, 0, []),
  (5, .aload_n 0, 1, 0, 0, 0, 0, 0, []),
  (6, .getfield 205, 3, 9, 15, 0, 0, 0, [158]),
  (9, .if_icmp .ge 56, 3, 65, 0, 0, 0, 0, []),
  (12, .iload_n 1, 1, 1, 0, 0, 0, 0, []),
  (13, .aload_n 0, 1, 0, 0, 0, 0, 0, []),
  (14, .iconst 1, 1, 0, 0, 0, 0, 1, []),
  (15, .aload_n 0, 1, 0, 0, 0, 0, 0, []),
  (16, .getfield 48, 3, 9, 16, 3, 2000, 13, [137]),
  (19, .iload_n 2, 1, 2, 0, 0, 0, 0, []),
  (20, .iaload, 1, 0, 0, 0, 0, 0, []),
  (21, .aload_n 0, 1, 0, 0, 0, 0, 0, []),
  (22, .getfield 51, 3, 9, 17, 4, 2000, 14, [138]),
  (25, .iload_n 2, 1, 2, 0, 0, 0, 0, []),
  (26, .laload, 1, 0, 0, 0, 0, 0, []),
  (27, .invokevirtual 256, 3, 168, 4, 7, 1, 9, [164]),
  (30, .ifCond .eq 22, 3, 52, 0, 0, 0, 0, []),
  (33, .aload_n 0, 1, 0, 0, 0, 0, 0, []),
  (34, .aload_n 0, 1, 0, 0, 0, 0, 0, []),
  (35, .getfield 48, 3, 9, 16, 3, 2000, 13, [137]),
  (38, .iload_n 2, 1, 2, 0, 0, 0, 0, []),
  (39, .iaload, 1, 0, 0, 0, 0, 0, []),
  (40, .aload_n 0, 1, 0, 0, 0, 0, 0, []),
  (41, .getfield 51, 3, 9, 17, 4, 2000, 14, [138]),
  (44, .iload_n 2, 1, 2, 0, 0, 0, 0, []),
  (45, .laload, 1, 0, 0, 0, 0, 0, []),
  (46, .invokevirtual 260, 3, 173, 3, 5, 1, 9, [165]),
  (49, .ifCond .eq 7, 3, 56, 0, 0, 0, 0, []),
  (52, .iconst 1, 1, 0, 0, 0, 0, 1, []),
  (53, .goto 4, 3, 57, 0, 0, 0, 0, []),
  (56, .iconst 0, 1, 0, 0, 0, 0, 0, []),
  (57, .iadd, 1, 0, 0, 0, 0, 0, []),
  (58, .istore_n 1, 1, 1, 0, 0, 0, 0, []),
  (59, .iinc 2 1, 3, 2, 0, 0, 0, 1, []),
  (62, .goto (-58), 3, 4, 0, 0, 0, 0, []),
  (65, .iload_n 1, 1, 1, 0, 0, 0, 0, []),
  (66, .ireturn, 1, 0, 0, 0, 0, 0, [])]
abbrev kMo_goneNow : Nat := 175
def cMo_goneNow : List xE := [(0, .iconst 0, 1, 0, 0, 0, 0, 0, []),
  (1, .istore_n 1, 1, 1, 0, 0, 0, 0, []),
  (2, .iconst 1, 1, 0, 0, 0, 0, 1, []),
  (3, .istore_n 2, 1, 2, 0, 0, 0, 0, []),
  (4, .iload_n 2, 1, 2, 0, 0, 0, 0, []),
  (5, .aload_n 0, 1, 0, 0, 0, 0, 0, []),
  (6, .getfield 33, 3, 9, 9, 3, 2, 8, [132]),
  (9, .iconst 1, 1, 0, 0, 0, 0, 1, []),
  (10, .iaload, 1, 0, 0, 0, 0, 0, []),
  (11, .if_icmp .ge 114, 3, 125, 0, 0, 0, 0, []),
  (14, .aload_n 0, 1, 0, 0, 0, 0, 0, []),
  (15, .iconst 1, 1, 0, 0, 0, 0, 1, []),
  (16, .iload_n 2, 1, 2, 0, 0, 0, 0, []),
  (17, .invokevirtual 216, 3, 165, 3, 3, 1, 9, [158]),
  (20, .invokestatic 129, 3, 141, 1, 1, 1, 0, [139]),
  (23, .lstore_n 3, 1, 3, 0, 0, 0, 0, []),
  (24, .ldc2_w 264, 3, 0, 0, 0, 0, (-1), [22]),
  (27, .lstore 5, 2, 5, 0, 0, 0, 0, []),
  (29, .iconst 1, 1, 0, 0, 0, 0, 1, []),
  (30, .istore 7, 2, 7, 0, 0, 0, 0, []),
  (32, .iload 7, 2, 7, 0, 0, 0, 0, []),
  (34, .aload_n 0, 1, 0, 0, 0, 0, 0, []),
  (35, .getfield 23, 3, 9, 6, 3, 2, 5, [129]),
  (38, .iconst 1, 1, 0, 0, 0, 0, 1, []),
  (39, .iaload, 1, 0, 0, 0, 0, 0, []),
  (40, .if_icmp .ge 79, 3, 119, 0, 0, 0, 0, []),
  (43, .aload_n 0, 1, 0, 0, 0, 0, 0, []),
  (44, .getfield 26, 3, 9, 7, 4, 248, 6, [130]),
  (47, .bipush 124, 2, 0, 0, 0, 0, 124, []),
  (49, .iload 7, 2, 7, 0, 0, 0, 0, []),
  (51, .iadd, 1, 0, 0, 0, 0, 0, []),
  (52, .laload, 1, 0, 0, 0, 0, 0, []),
  (53, .lload_n 3, 1, 3, 0, 0, 0, 0, []),
  (54, .lrem, 1, 0, 0, 0, 0, 0, []),
  (55, .lstore 8, 2, 8, 0, 0, 0, 0, []),
  (57, .aload_n 0, 1, 0, 0, 0, 0, 0, []),
  (58, .getfield 26, 3, 9, 7, 4, 248, 6, [130]),
  (61, .bipush 124, 2, 0, 0, 0, 0, 124, []),
  (63, .iload 7, 2, 7, 0, 0, 0, 0, []),
  (65, .iadd, 1, 0, 0, 0, 0, 0, []),
  (66, .laload, 1, 0, 0, 0, 0, 0, []),
  (67, .lload 8, 2, 8, 0, 0, 0, 0, []),
  (69, .lsub, 1, 0, 0, 0, 0, 0, []),
  (70, .lstore 10, 2, 10, 0, 0, 0, 0, []),
  (72, .lload 8, 2, 8, 0, 0, 0, 0, []),
  (74, .lconst 0, 1, 0, 0, 0, 0, 0, []),
  (75, .lcmp, 4, 113, 0, 0, 0, 0, []),
  (79, .lload 10, 2, 10, 0, 0, 0, 0, []),
  (81, .lload 5, 2, 5, 0, 0, 0, 0, []),
  (83, .lcmp, 4, 90, 1, 0, 0, 0, []),
  (87, .goto 26, 3, 113, 0, 0, 0, 0, []),
  (90, .lload 10, 2, 10, 0, 0, 0, 0, []),
  (92, .lstore 5, 2, 5, 0, 0, 0, 0, []),
  (94, .iload_n 1, 1, 1, 0, 0, 0, 0, []),
  (95, .aload_n 0, 1, 0, 0, 0, 0, 0, []),
  (96, .iconst 0, 1, 0, 0, 0, 0, 0, []),
  (97, .iload_n 2, 1, 2, 0, 0, 0, 0, []),
  (98, .lload 10, 2, 10, 0, 0, 0, 0, []),
  (100, .invokevirtual 256, 3, 168, 4, 7, 1, 9, [164]),
  (103, .ifCond .eq 7, 3, 110, 0, 0, 0, 0, []),
  (106, .iconst 0, 1, 0, 0, 0, 0, 0, []),
  (107, .goto 4, 3, 111, 0, 0, 0, 0, []),
  (110, .iconst 1, 1, 0, 0, 0, 0, 1, []),
  (111, .iadd, 1, 0, 0, 0, 0, 0, []),
  (112, .istore_n 1, 1, 1, 0, 0, 0, 0, []),
  (113, .iinc 7 1, 3, 7, 0, 0, 0, 1, []),
  (116, .goto (-84), 3, 32, 0, 0, 0, 0, []),
  (119, .iinc 2 1, 3, 2, 0, 0, 0, 1, []),
  (122, .goto (-118), 3, 4, 0, 0, 0, 0, []),
  (125, .iload_n 1, 1, 1, 0, 0, 0, 0, []),
  (126, .ireturn, 1, 0, 0, 0, 0, 0, [])]
abbrev kMo_keepsAct : Nat := 176
def cMo_keepsAct : List xE := [(0, .aload_n 0, 1, 0, 0, 0, 0, 0, []),
  (1, .getfield 266, 3, 9, 2, 0, 0, 0, [166]),
  (4, .bipush 10, 2, 0, 0, 0, 0, 10, []),
  (6, .if_icmp .ne 46, 3, 52, 0, 0, 0, 0, []),
  (9, .sipush 259, 3, 0, 0, 0, 0, 259, []),
  (12, .istore_n 1, 1, 1, 0, 0, 0, 0, []),
  (13, .iload_n 1, 1, 1, 0, 0, 0, 0, []),
  (14, .sipush 2590, 3, 0, 0, 0, 0, 2590, []),
  (17, .if_icmp .ge 25, 3, 42, 0, 0, 0, 0, []),
  (20, .aload_n 0, 1, 0, 0, 0, 0, 0, []),
  (21, .getfield 13, 3, 9, 1, 3, 2590, 2, [126]),
  (24, .iload_n 1, 1, 1, 0, 0, 0, 0, []),
  (25, .sipush 259, 3, 0, 0, 0, 0, 259, []),
  (28, .isub, 1, 0, 0, 0, 0, 0, []),
  (29, .aload_n 0, 1, 0, 0, 0, 0, 0, []),
  (30, .getfield 13, 3, 9, 1, 3, 2590, 2, [126]),
  (33, .iload_n 1, 1, 1, 0, 0, 0, 0, []),
  (34, .iaload, 1, 0, 0, 0, 0, 0, []),
  (35, .iastore, 1, 0, 0, 0, 0, 0, []),
  (36, .iinc 1 1, 3, 1, 0, 0, 0, 1, []),
  (39, .goto (-26), 3, 13, 0, 0, 0, 0, []),
  (42, .aload_n 0, 1, 0, 0, 0, 0, 0, []),
  (43, .dup, 1, 0, 0, 0, 0, 0, []),
  (44, .getfield 266, 3, 9, 2, 0, 0, 0, [166]),
  (47, .iconst 1, 1, 0, 0, 0, 0, 1, []),
  (48, .isub, 1, 0, 0, 0, 0, 0, []),
  (49, .putfield 266, 3, 9, 2, 0, 0, 0, [166]),
  (52, .iconst 0, 1, 0, 0, 0, 0, 0, []),
  (53, .istore_n 1, 1, 1, 0, 0, 0, 0, []),
  (54, .iload_n 1, 1, 1, 0, 0, 0, 0, []),
  (55, .sipush 259, 3, 0, 0, 0, 0, 259, []),
  (58, .if_icmp .ge 30, 3, 88, 0, 0, 0, 0, []),
  (61, .aload_n 0, 1, 0, 0, 0, 0, 0, []),
  (62, .getfield 13, 3, 9, 1, 3, 2590, 2, [126]),
  (65, .sipush 259, 3, 0, 0, 0, 0, 259, []),
  (68, .aload_n 0, 1, 0, 0, 0, 0, 0, []),
  (69, .getfield 266, 3, 9, 2, 0, 0, 0, [166]),
  (72, .imul, 1, 0, 0, 0, 0, 0, []),
  (73, .iload_n 1, 1, 1, 0, 0, 0, 0, []),
  (74, .iadd, 1, 0, 0, 0, 0, 0, []),
  (75, .aload_n 0, 1, 0, 0, 0, 0, 0, []),
  (76, .getfield 7, 3, 9, 0, 3, 259, 1, [125]),
  (79, .iload_n 1, 1, 1, 0, 0, 0, 0, []),
  (80, .iaload, 1, 0, 0, 0, 0, 0, []),
  (81, .iastore, 1, 0, 0, 0, 0, 0, []),
  (82, .iinc 1 1, 3, 1, 0, 0, 0, 1, []),
  (85, .goto (-31), 3, 54, 0, 0, 0, 0, []),
  (88, .aload_n 0, 1, 0, 0, 0, 0, 0, []),
  (89, .dup, 1, 0, 0, 0, 0, 0, []),
  (90, .getfield 266, 3, 9, 2, 0, 0, 0, [166]),
  (93, .iconst 1, 1, 0, 0, 0, 0, 1, []),
  (94, .iadd, 1, 0, 0, 0, 0, 0, []),
  (95, .putfield 266, 3, 9, 2, 0, 0, 0, [166]),
  (98, .return_, 1, 0, 0, 0, 0, 0, [])]
abbrev kMo_isDone : Nat := 177
def cMo_isDone : List xE := [(0, .aload_n 0, 1, 0, 0, 0, 0, 0, []),
  (1, .iconst 1, 1, 0, 0, 0, 0, 1, []),
  (2, .aload_n 0, 1, 0, 0, 0, 0, 0, []),
  (3, .getfield 13, 3, 9, 1, 3, 2590, 2, [126]),
  (6, .sipush 259, 3, 0, 0, 0, 0, 259, []),
  (9, .aload_n 0, 1, 0, 0, 0, 0, 0, []),
  (10, .getfield 266, 3, 9, 2, 0, 0, 0, [166]),
  (13, .iconst 1, 1, 0, 0, 0, 0, 1, []),
  (14, .isub, 1, 0, 0, 0, 0, 0, []),
  (15, .imul, 1, 0, 0, 0, 0, 0, []),
  (16, .invokevirtual 113, 3, 160, 4, 7, 0, 9, [136]),
  (19, .aload_n 0, 1, 0, 0, 0, 0, 0, []),
  (20, .iconst 0, 1, 0, 0, 0, 0, 0, []),
  (21, .aload_n 0, 1, 0, 0, 0, 0, 0, []),
  (22, .getfield 7, 3, 9, 0, 3, 259, 1, [125]),
  (25, .iconst 0, 1, 0, 0, 0, 0, 0, []),
  (26, .invokevirtual 113, 3, 160, 4, 7, 0, 9, [136]),
  (29, .aload_n 0, 1, 0, 0, 0, 0, 0, []),
  (30, .aload_n 0, 1, 0, 0, 0, 0, 0, []),
  (31, .invokevirtual 269, 3, 174, 1, 3, 1, 9, [166]),
  (34, .aload_n 0, 1, 0, 0, 0, 0, 0, []),
  (35, .invokevirtual 273, 3, 175, 1, 12, 1, 9, [167]),
  (38, .iadd, 1, 0, 0, 0, 0, 0, []),
  (39, .putfield 276, 3, 9, 5, 0, 0, 0, [167]),
  (42, .return_, 1, 0, 0, 0, 0, 0, [])]
abbrev kMo_isLaidAnew : Nat := 178
def cMo_isLaidAnew : List xE := [(0, .aload_n 0, 1, 0, 0, 0, 0, 0, []),
  (1, .iconst 0, 1, 0, 0, 0, 0, 0, []),
  (2, .aload_n 0, 1, 0, 0, 0, 0, 0, []),
  (3, .getfield 7, 3, 9, 0, 3, 259, 1, [125]),
  (6, .iconst 0, 1, 0, 0, 0, 0, 0, []),
  (7, .invokevirtual 113, 3, 160, 4, 7, 0, 9, [136]),
  (10, .aload_n 0, 1, 0, 0, 0, 0, 0, []),
  (11, .iconst 0, 1, 0, 0, 0, 0, 0, []),
  (12, .putfield 276, 3, 9, 5, 0, 0, 0, [167]),
  (15, .return_, 1, 0, 0, 0, 0, 0, [])]
abbrev kMo_undo : Nat := 179
def cMo_undo : List xE := [(0, .aload_n 0, 1, 0, 0, 0, 0, 0, []),
  (1, .getfield 266, 3, 9, 2, 0, 0, 0, [166]),
  (4, .ifCond .ne 5, 3, 9, 0, 0, 0, 0, []),
  (7, .iconst (-1), 1, 0, 0, 0, 0, (-1), []),
  (8, .ireturn, 1, 0, 0, 0, 0, 0, []),
  (9, .aload_n 0, 1, 0, 0, 0, 0, 0, []),
  (10, .dup, 1, 0, 0, 0, 0, 0, []),
  (11, .getfield 266, 3, 9, 2, 0, 0, 0, [166]),
  (14, .iconst 1, 1, 0, 0, 0, 0, 1, []),
  (15, .isub, 1, 0, 0, 0, 0, 0, []),
  (16, .putfield 266, 3, 9, 2, 0, 0, 0, [166]),
  (19, .iconst 0, 1, 0, 0, 0, 0, 0, []),
  (20, .istore_n 1, 1, 1, 0, 0, 0, 0, []),
  (21, .iload_n 1, 1, 1, 0, 0, 0, 0, []),
  (22, .sipush 259, 3, 0, 0, 0, 0, 259, []),
  (25, .if_icmp .ge 30, 3, 55, 0, 0, 0, 0, []),
  (28, .aload_n 0, 1, 0, 0, 0, 0, 0, []),
  (29, .getfield 7, 3, 9, 0, 3, 259, 1, [125]),
  (32, .iload_n 1, 1, 1, 0, 0, 0, 0, []),
  (33, .aload_n 0, 1, 0, 0, 0, 0, 0, []),
  (34, .getfield 13, 3, 9, 1, 3, 2590, 2, [126]),
  (37, .sipush 259, 3, 0, 0, 0, 0, 259, []),
  (40, .aload_n 0, 1, 0, 0, 0, 0, 0, []),
  (41, .getfield 266, 3, 9, 2, 0, 0, 0, [166]),
  (44, .imul, 1, 0, 0, 0, 0, 0, []),
  (45, .iload_n 1, 1, 1, 0, 0, 0, 0, []),
  (46, .iadd, 1, 0, 0, 0, 0, 0, []),
  (47, .iaload, 1, 0, 0, 0, 0, 0, []),
  (48, .iastore, 1, 0, 0, 0, 0, 0, []),
  (49, .iinc 1 1, 3, 1, 0, 0, 0, 1, []),
  (52, .goto (-31), 3, 21, 0, 0, 0, 0, []),
  (55, .aload_n 0, 1, 0, 0, 0, 0, 0, []),
  (56, .invokevirtual 279, 3, 178, 1, 1, 0, 9, [168]),
  (59, .aload_n 0, 1, 0, 0, 0, 0, 0, []),
  (60, .getfield 266, 3, 9, 2, 0, 0, 0, [166]),
  (63, .ireturn, 1, 0, 0, 0, 0, 0, [])]
abbrev kMo_isShelf : Nat := 180
def cMo_isShelf : List xE := [(0, .iload_n 0, 1, 0, 0, 0, 0, 0, []),
  (1, .i2l, 1, 0, 0, 0, 0, 0, []),
  (2, .lconst 0, 1, 0, 0, 0, 0, 0, []),
  (3, .lconst 1, 1, 0, 0, 0, 0, 1, []),
  (4, .invokestatic 121, 3, 138, 3, 6, 1, 0, [137]),
  (7, .ireturn, 1, 1, 0, 0, 0, 0, [])]
abbrev kMo_keep : Nat := 181
def cMo_keep : List xE := [(0, .iload_n 1, 1, 1, 0, 0, 0, 0, []),
  (1, .invokestatic 282, 3, 180, 1, 1, 1, 0, [169]),
  (4, .ifCond .ne 5, 3, 9, 0, 0, 0, 0, []),
  (7, .iconst (-1), 1, 0, 0, 0, 0, (-1), []),
  (8, .ireturn, 1, 0, 0, 0, 0, 0, []),
  (9, .iconst 0, 1, 0, 0, 0, 0, 0, []),
  (10, .istore_n 2, 1, 2, 0, 0, 0, 0, []),
  (11, .iload_n 2, 1, 2, 0, 0, 0, 0, []),
  (12, .sipush 259, 3, 0, 0, 0, 0, 259, []),
  (15, .if_icmp .ge 27, 3, 42, 0, 0, 0, 0, []),
  (18, .aload_n 0, 1, 0, 0, 0, 0, 0, []),
  (19, .getfield 16, 3, 9, 3, 3, 518, 3, [127]),
  (22, .sipush 259, 3, 0, 0, 0, 0, 259, []),
  (25, .iload_n 1, 1, 1, 0, 0, 0, 0, []),
  (26, .imul, 1, 0, 0, 0, 0, 0, []),
  (27, .iload_n 2, 1, 2, 0, 0, 0, 0, []),
  (28, .iadd, 1, 0, 0, 0, 0, 0, []),
  (29, .aload_n 0, 1, 0, 0, 0, 0, 0, []),
  (30, .getfield 7, 3, 9, 0, 3, 259, 1, [125]),
  (33, .iload_n 2, 1, 2, 0, 0, 0, 0, []),
  (34, .iaload, 1, 0, 0, 0, 0, 0, []),
  (35, .iastore, 1, 0, 0, 0, 0, 0, []),
  (36, .iinc 2 1, 3, 2, 0, 0, 0, 1, []),
  (39, .goto (-28), 3, 11, 0, 0, 0, 0, []),
  (42, .aload_n 0, 1, 0, 0, 0, 0, 0, []),
  (43, .getfield 19, 3, 9, 4, 5, 2, 4, [128]),
  (46, .iload_n 1, 1, 1, 0, 0, 0, 0, []),
  (47, .iconst 1, 1, 0, 0, 0, 0, 1, []),
  (48, .bastore, 1, 0, 0, 0, 0, 0, []),
  (49, .aload_n 0, 1, 0, 0, 0, 0, 0, []),
  (50, .getfield 7, 3, 9, 0, 3, 259, 1, [125]),
  (53, .iconst 0, 1, 0, 0, 0, 0, 0, []),
  (54, .iaload, 1, 0, 0, 0, 0, 0, []),
  (55, .ireturn, 1, 0, 0, 0, 0, 0, [])]
abbrev kMo_back : Nat := 182
def cMo_back : List xE := [(0, .iload_n 1, 1, 1, 0, 0, 0, 0, []),
  (1, .invokestatic 282, 3, 180, 1, 1, 1, 0, [169]),
  (4, .ifCond .ne 5, 3, 9, 0, 0, 0, 0, []),
  (7, .iconst (-1), 1, 0, 0, 0, 0, (-1), []),
  (8, .ireturn, 1, 0, 0, 0, 0, 0, []),
  (9, .aload_n 0, 1, 0, 0, 0, 0, 0, []),
  (10, .getfield 19, 3, 9, 4, 5, 2, 4, [128]),
  (13, .iload_n 1, 1, 1, 0, 0, 0, 0, []),
  (14, .baload, 1, 0, 0, 0, 0, 0, []),
  (15, .ifCond .ne 6, 3, 21, 0, 0, 0, 0, []),
  (18, .bipush (-2), 2, 0, 0, 0, 0, (-2), []),
  (20, .ireturn, 1, 0, 0, 0, 0, 0, []),
  (21, .iconst 0, 1, 0, 0, 0, 0, 0, []),
  (22, .istore_n 2, 1, 2, 0, 0, 0, 0, []),
  (23, .iload_n 2, 1, 2, 0, 0, 0, 0, []),
  (24, .sipush 259, 3, 0, 0, 0, 0, 259, []),
  (27, .if_icmp .ge 27, 3, 54, 0, 0, 0, 0, []),
  (30, .aload_n 0, 1, 0, 0, 0, 0, 0, []),
  (31, .getfield 7, 3, 9, 0, 3, 259, 1, [125]),
  (34, .iload_n 2, 1, 2, 0, 0, 0, 0, []),
  (35, .aload_n 0, 1, 0, 0, 0, 0, 0, []),
  (36, .getfield 16, 3, 9, 3, 3, 518, 3, [127]),
  (39, .sipush 259, 3, 0, 0, 0, 0, 259, []),
  (42, .iload_n 1, 1, 1, 0, 0, 0, 0, []),
  (43, .imul, 1, 0, 0, 0, 0, 0, []),
  (44, .iload_n 2, 1, 2, 0, 0, 0, 0, []),
  (45, .iadd, 1, 0, 0, 0, 0, 0, []),
  (46, .iaload, 1, 0, 0, 0, 0, 0, []),
  (47, .iastore, 1, 0, 0, 0, 0, 0, []),
  (48, .iinc 2 1, 3, 2, 0, 0, 0, 1, []),
  (51, .goto (-28), 3, 23, 0, 0, 0, 0, []),
  (54, .aload_n 0, 1, 0, 0, 0, 0, 0, []),
  (55, .iconst 0, 1, 0, 0, 0, 0, 0, []),
  (56, .putfield 266, 3, 9, 2, 0, 0, 0, [166]),
  (59, .aload_n 0, 1, 0, 0, 0, 0, 0, []),
  (60, .invokevirtual 279, 3, 178, 1, 1, 0, 9, [168]),
  (63, .aload_n 0, 1, 0, 0, 0, 0, 0, []),
  (64, .getfield 7, 3, 9, 0, 3, 259, 1, [125]),
  (67, .iconst 0, 1, 0, 0, 0, 0, 0, []),
  (68, .iaload, 1, 0, 0, 0, 0, 0, []),
  (69, .ireturn, 1, 0, 0, 0, 0, 0, [])]
abbrev kMo_hasIt : Nat := 183
def cMo_hasIt : List xE := [(0, .aload_n 0, 1, 0, 0, 0, 0, 0, []),
  (1, .lload_n 1, 1, 1, 0, 0, 0, 0, []),
  (2, .iload_n 3, 1, 3, 0, 0, 0, 0, []),
  (3, .invokevirtual 146, 3, 145, 3, 5, 1, 9, [143]),
  (6, .istore 5, 2, 5, 0, 0, 0, 0, []),
  (8, .iload 5, 2, 5, 0, 0, 0, 0, []),
  (10, .iconst (-1), 1, 0, 0, 0, 0, (-1), []),
  (11, .if_icmp .eq 31, 3, 42, 0, 0, 0, 0, []),
  (14, .aload_n 0, 1, 0, 0, 0, 0, 0, []),
  (15, .getfield 7, 3, 9, 0, 3, 259, 1, [125]),
  (18, .sipush 182, 3, 0, 0, 0, 0, 182, []),
  (21, .aload_n 0, 1, 0, 0, 0, 0, 0, []),
  (22, .getfield 7, 3, 9, 0, 3, 259, 1, [125]),
  (25, .bipush 122, 2, 0, 0, 0, 0, 122, []),
  (27, .iload 5, 2, 5, 0, 0, 0, 0, []),
  (29, .iadd, 1, 0, 0, 0, 0, 0, []),
  (30, .iaload, 1, 0, 0, 0, 0, 0, []),
  (31, .iadd, 1, 0, 0, 0, 0, 0, []),
  (32, .iaload, 1, 0, 0, 0, 0, 0, []),
  (33, .iload 4, 2, 4, 0, 0, 0, 0, []),
  (35, .if_icmp .ne 7, 3, 42, 0, 0, 0, 0, []),
  (38, .iconst 1, 1, 0, 0, 0, 0, 1, []),
  (39, .goto 4, 3, 43, 0, 0, 0, 0, []),
  (42, .iconst 0, 1, 0, 0, 0, 0, 0, []),
  (43, .ireturn, 1, 1, 0, 0, 0, 0, [])]
abbrev kMo_add : Nat := 184
def cMo_add : List xE := [(0, .iload_n 1, 1, 1, 0, 0, 0, 0, []),
  (1, .iload_n 2, 1, 2, 0, 0, 0, 0, []),
  (2, .invokestatic 286, 3, 142, 2, 2, 1, 0, [170]),
  (5, .ifCond .eq 12, 3, 17, 0, 0, 0, 0, []),
  (8, .iload_n 3, 1, 3, 0, 0, 0, 0, []),
  (9, .iload 4, 2, 4, 0, 0, 0, 0, []),
  (11, .invokestatic 290, 3, 143, 2, 2, 1, 0, [171]),
  (14, .ifCond .ne 5, 3, 19, 0, 0, 0, 0, []),
  (17, .iconst (-1), 1, 0, 0, 0, 0, (-1), []),
  (18, .ireturn, 1, 0, 0, 0, 0, 0, []),
  (19, .bipush 10, 2, 0, 0, 0, 0, 10, []),
  (21, .iload_n 3, 1, 3, 0, 0, 0, 0, []),
  (22, .imul, 1, 0, 0, 0, 0, 0, []),
  (23, .iload 4, 2, 4, 0, 0, 0, 0, []),
  (25, .iadd, 1, 0, 0, 0, 0, 0, []),
  (26, .istore 5, 2, 5, 0, 0, 0, 0, []),
  (28, .aload_n 0, 1, 0, 0, 0, 0, 0, []),
  (29, .iload_n 1, 1, 1, 0, 0, 0, 0, []),
  (30, .invokestatic 125, 3, 140, 1, 1, 1, 0, [138]),
  (33, .iload_n 2, 1, 2, 0, 0, 0, 0, []),
  (34, .iload 5, 2, 5, 0, 0, 0, 0, []),
  (36, .invokevirtual 293, 3, 183, 4, 6, 1, 9, [172]),
  (39, .ifCond .eq 6, 3, 45, 0, 0, 0, 0, []),
  (42, .bipush (-2), 2, 0, 0, 0, 0, (-2), []),
  (44, .ireturn, 1, 0, 0, 0, 0, 0, []),
  (45, .aload_n 0, 1, 0, 0, 0, 0, 0, []),
  (46, .getfield 7, 3, 9, 0, 3, 259, 1, [125]),
  (49, .iconst 0, 1, 0, 0, 0, 0, 0, []),
  (50, .iaload, 1, 0, 0, 0, 0, 0, []),
  (51, .bipush 60, 2, 0, 0, 0, 0, 60, []),
  (53, .if_icmp .ne 19, 3, 72, 0, 0, 0, 0, []),
  (56, .aload_n 0, 1, 0, 0, 0, 0, 0, []),
  (57, .iload_n 1, 1, 1, 0, 0, 0, 0, []),
  (58, .invokestatic 125, 3, 140, 1, 1, 1, 0, [138]),
  (61, .iload_n 2, 1, 2, 0, 0, 0, 0, []),
  (62, .invokevirtual 146, 3, 145, 3, 5, 1, 9, [143]),
  (65, .iconst (-1), 1, 0, 0, 0, 0, (-1), []),
  (66, .if_icmp .ne 6, 3, 72, 0, 0, 0, 0, []),
  (69, .bipush (-3), 2, 0, 0, 0, 0, (-3), []),
  (71, .ireturn, 1, 0, 0, 0, 0, 0, []),
  (72, .aload_n 0, 1, 0, 0, 0, 0, 0, []),
  (73, .invokevirtual 297, 3, 176, 1, 2, 0, 9, [173]),
  (76, .aload_n 0, 1, 0, 0, 0, 0, 0, []),
  (77, .iload_n 1, 1, 1, 0, 0, 0, 0, []),
  (78, .invokestatic 125, 3, 140, 1, 1, 1, 0, [138]),
  (81, .iload_n 2, 1, 2, 0, 0, 0, 0, []),
  (82, .iload 5, 2, 5, 0, 0, 0, 0, []),
  (84, .invokevirtual 300, 3, 152, 4, 7, 1, 9, [174]),
  (87, .istore 6, 2, 6, 0, 0, 0, 0, []),
  (89, .aload_n 0, 1, 0, 0, 0, 0, 0, []),
  (90, .invokevirtual 304, 3, 177, 1, 1, 0, 9, [175]),
  (93, .aload_n 0, 1, 0, 0, 0, 0, 0, []),
  (94, .getfield 7, 3, 9, 0, 3, 259, 1, [125]),
  (97, .bipush 122, 2, 0, 0, 0, 0, 122, []),
  (99, .iload 6, 2, 6, 0, 0, 0, 0, []),
  (101, .iadd, 1, 0, 0, 0, 0, 0, []),
  (102, .iaload, 1, 0, 0, 0, 0, 0, []),
  (103, .ireturn, 1, 0, 0, 0, 0, 0, [])]
abbrev kMo_withdraw : Nat := 185
def cMo_withdraw : List xE := [(0, .iload_n 1, 1, 1, 0, 0, 0, 0, []),
  (1, .iload_n 2, 1, 2, 0, 0, 0, 0, []),
  (2, .invokestatic 286, 3, 142, 2, 2, 1, 0, [170]),
  (5, .ifCond .ne 5, 3, 10, 0, 0, 0, 0, []),
  (8, .iconst (-1), 1, 0, 0, 0, 0, (-1), []),
  (9, .ireturn, 1, 0, 0, 0, 0, 0, []),
  (10, .aload_n 0, 1, 0, 0, 0, 0, 0, []),
  (11, .iload_n 1, 1, 1, 0, 0, 0, 0, []),
  (12, .invokestatic 125, 3, 140, 1, 1, 1, 0, [138]),
  (15, .iload_n 2, 1, 2, 0, 0, 0, 0, []),
  (16, .invokevirtual 146, 3, 145, 3, 5, 1, 9, [143]),
  (19, .istore_n 3, 1, 3, 0, 0, 0, 0, []),
  (20, .iload_n 3, 1, 3, 0, 0, 0, 0, []),
  (21, .iconst (-1), 1, 0, 0, 0, 0, (-1), []),
  (22, .if_icmp .ne 5, 3, 27, 0, 0, 0, 0, []),
  (25, .iconst (-1), 1, 0, 0, 0, 0, (-1), []),
  (26, .ireturn, 1, 0, 0, 0, 0, 0, []),
  (27, .aload_n 0, 1, 0, 0, 0, 0, 0, []),
  (28, .invokevirtual 297, 3, 176, 1, 2, 0, 9, [173]),
  (31, .aload_n 0, 1, 0, 0, 0, 0, 0, []),
  (32, .iload_n 3, 1, 3, 0, 0, 0, 0, []),
  (33, .invokevirtual 307, 3, 153, 2, 4, 0, 9, [176]),
  (36, .aload_n 0, 1, 0, 0, 0, 0, 0, []),
  (37, .invokevirtual 304, 3, 177, 1, 1, 0, 9, [175]),
  (40, .aload_n 0, 1, 0, 0, 0, 0, 0, []),
  (41, .getfield 7, 3, 9, 0, 3, 259, 1, [125]),
  (44, .iconst 0, 1, 0, 0, 0, 0, 0, []),
  (45, .iaload, 1, 0, 0, 0, 0, 0, []),
  (46, .ireturn, 1, 0, 0, 0, 0, 0, [])]
abbrev kMo_would : Nat := 186
def cMo_would : List xE := [(0, .iload_n 1, 1, 1, 0, 0, 0, 0, []),
  (1, .iload_n 2, 1, 2, 0, 0, 0, 0, []),
  (2, .invokestatic 286, 3, 142, 2, 2, 1, 0, [170]),
  (5, .ifCond .eq 12, 3, 17, 0, 0, 0, 0, []),
  (8, .iload_n 3, 1, 3, 0, 0, 0, 0, []),
  (9, .iload 4, 2, 4, 0, 0, 0, 0, []),
  (11, .invokestatic 290, 3, 143, 2, 2, 1, 0, [171]),
  (14, .ifCond .ne 5, 3, 19, 0, 0, 0, 0, []),
  (17, .iconst (-1), 1, 0, 0, 0, 0, (-1), []),
  (18, .ireturn, 1, 0, 0, 0, 0, 0, []),
  (19, .bipush 10, 2, 0, 0, 0, 0, 10, []),
  (21, .iload_n 3, 1, 3, 0, 0, 0, 0, []),
  (22, .imul, 1, 0, 0, 0, 0, 0, []),
  (23, .iload 4, 2, 4, 0, 0, 0, 0, []),
  (25, .iadd, 1, 0, 0, 0, 0, 0, []),
  (26, .istore 5, 2, 5, 0, 0, 0, 0, []),
  (28, .aload_n 0, 1, 0, 0, 0, 0, 0, []),
  (29, .iload_n 1, 1, 1, 0, 0, 0, 0, []),
  (30, .invokestatic 125, 3, 140, 1, 1, 1, 0, [138]),
  (33, .iload_n 2, 1, 2, 0, 0, 0, 0, []),
  (34, .iload 5, 2, 5, 0, 0, 0, 0, []),
  (36, .invokevirtual 293, 3, 183, 4, 6, 1, 9, [172]),
  (39, .ifCond .eq 5, 3, 44, 0, 0, 0, 0, []),
  (42, .iconst 0, 1, 0, 0, 0, 0, 0, []),
  (43, .ireturn, 1, 0, 0, 0, 0, 0, []),
  (44, .aload_n 0, 1, 0, 0, 0, 0, 0, []),
  (45, .getfield 7, 3, 9, 0, 3, 259, 1, [125]),
  (48, .iconst 0, 1, 0, 0, 0, 0, 0, []),
  (49, .iaload, 1, 0, 0, 0, 0, 0, []),
  (50, .bipush 60, 2, 0, 0, 0, 0, 60, []),
  (52, .if_icmp .ne 19, 3, 71, 0, 0, 0, 0, []),
  (55, .aload_n 0, 1, 0, 0, 0, 0, 0, []),
  (56, .iload_n 1, 1, 1, 0, 0, 0, 0, []),
  (57, .invokestatic 125, 3, 140, 1, 1, 1, 0, [138]),
  (60, .iload_n 2, 1, 2, 0, 0, 0, 0, []),
  (61, .invokevirtual 146, 3, 145, 3, 5, 1, 9, [143]),
  (64, .iconst (-1), 1, 0, 0, 0, 0, (-1), []),
  (65, .if_icmp .ne 6, 3, 71, 0, 0, 0, 0, []),
  (68, .bipush (-3), 2, 0, 0, 0, 0, (-3), []),
  (70, .ireturn, 1, 0, 0, 0, 0, 0, []),
  (71, .iconst 0, 1, 0, 0, 0, 0, 0, []),
  (72, .istore 6, 2, 6, 0, 0, 0, 0, []),
  (74, .iload 6, 2, 6, 0, 0, 0, 0, []),
  (76, .sipush 259, 3, 0, 0, 0, 0, 259, []),
  (79, .if_icmp .ge 23, 3, 102, 0, 0, 0, 0, []),
  (82, .aload_n 0, 1, 0, 0, 0, 0, 0, []),
  (83, .getfield 63, 3, 9, 28, 3, 259, 18, [142]),
  (86, .iload 6, 2, 6, 0, 0, 0, 0, []),
  (88, .aload_n 0, 1, 0, 0, 0, 0, 0, []),
  (89, .getfield 7, 3, 9, 0, 3, 259, 1, [125]),
  (92, .iload 6, 2, 6, 0, 0, 0, 0, []),
  (94, .iaload, 1, 0, 0, 0, 0, 0, []),
  (95, .iastore, 1, 0, 0, 0, 0, 0, []),
  (96, .iinc 6 1, 3, 6, 0, 0, 0, 1, []),
  (99, .goto (-25), 3, 74, 0, 0, 0, 0, []),
  (102, .aload_n 0, 1, 0, 0, 0, 0, 0, []),
  (103, .iconst 1, 1, 0, 0, 0, 0, 1, []),
  (104, .aload_n 0, 1, 0, 0, 0, 0, 0, []),
  (105, .getfield 63, 3, 9, 28, 3, 259, 18, [142]),
  (108, .iconst 0, 1, 0, 0, 0, 0, 0, []),
  (109, .invokevirtual 113, 3, 160, 4, 7, 0, 9, [136]),
  (112, .aload_n 0, 1, 0, 0, 0, 0, 0, []),
  (113, .iload_n 1, 1, 1, 0, 0, 0, 0, []),
  (114, .invokestatic 125, 3, 140, 1, 1, 1, 0, [138]),
  (117, .iload_n 2, 1, 2, 0, 0, 0, 0, []),
  (118, .iload 5, 2, 5, 0, 0, 0, 0, []),
  (120, .invokevirtual 300, 3, 152, 4, 7, 1, 9, [174]),
  (123, .istore 6, 2, 6, 0, 0, 0, 0, []),
  (125, .aload_n 0, 1, 0, 0, 0, 0, 0, []),
  (126, .iconst 0, 1, 0, 0, 0, 0, 0, []),
  (127, .aload_n 0, 1, 0, 0, 0, 0, 0, []),
  (128, .getfield 7, 3, 9, 0, 3, 259, 1, [125]),
  (131, .iconst 0, 1, 0, 0, 0, 0, 0, []),
  (132, .invokevirtual 113, 3, 160, 4, 7, 0, 9, [136]),
  (135, .aload_n 0, 1, 0, 0, 0, 0, 0, []),
  (136, .invokevirtual 269, 3, 174, 1, 3, 1, 9, [166]),
  (139, .aload_n 0, 1, 0, 0, 0, 0, 0, []),
  (140, .invokevirtual 273, 3, 175, 1, 12, 1, 9, [167]),
  (143, .iadd, 1, 0, 0, 0, 0, 0, []),
  (144, .istore 7, 2, 7, 0, 0, 0, 0, []),
  (146, .iconst 0, 1, 0, 0, 0, 0, 0, []),
  (147, .istore 8, 2, 8, 0, 0, 0, 0, []),
  (149, .iload 8, 2, 8, 0, 0, 0, 0, []),
  (151, .sipush 259, 3, 0, 0, 0, 0, 259, []),
  (154, .if_icmp .ge 23, 3, 177, 0, 0, 0, 0, []),
  (157, .aload_n 0, 1, 0, 0, 0, 0, 0, []),
  (158, .getfield 7, 3, 9, 0, 3, 259, 1, [125]),
  (161, .iload 8, 2, 8, 0, 0, 0, 0, []),
  (163, .aload_n 0, 1, 0, 0, 0, 0, 0, []),
  (164, .getfield 63, 3, 9, 28, 3, 259, 18, [142]),
  (167, .iload 8, 2, 8, 0, 0, 0, 0, []),
  (169, .iaload, 1, 0, 0, 0, 0, 0, []),
  (170, .iastore, 1, 0, 0, 0, 0, 0, []),
  (171, .iinc 8 1, 3, 8, 0, 0, 0, 1, []),
  (174, .goto (-25), 3, 149, 0, 0, 0, 0, []),
  (177, .aload_n 0, 1, 0, 0, 0, 0, 0, []),
  (178, .iconst 0, 1, 0, 0, 0, 0, 0, []),
  (179, .aload_n 0, 1, 0, 0, 0, 0, 0, []),
  (180, .getfield 7, 3, 9, 0, 3, 259, 1, [125]),
  (183, .iconst 0, 1, 0, 0, 0, 0, 0, []),
  (184, .invokevirtual 113, 3, 160, 4, 7, 0, 9, [136]),
  (187, .iload 7, 2, 7, 0, 0, 0, 0, []),
  (189, .ireturn, 1, 0, 0, 0, 0, 0, [])]
abbrev kMo_covers : Nat := 187
def cMo_covers : List xE := [(0, .iload_n 1, 1, 1, 0, 0, 0, 0, []),
  (1, .invokestatic 125, 3, 140, 1, 1, 1, 0, [138]),
  (4, .lstore_n 3, 1, 3, 0, 0, 0, 0, []),
  (5, .iload_n 2, 1, 2, 0, 0, 0, 0, []),
  (6, .invokestatic 125, 3, 140, 1, 1, 1, 0, [138]),
  (9, .lconst 1, 1, 0, 0, 0, 0, 1, []),
  (10, .ladd, 1, 0, 0, 0, 0, 0, []),
  (11, .lstore 5, 2, 5, 0, 0, 0, 0, []),
  (13, .aload_n 0, 1, 0, 0, 0, 0, 0, []),
  (14, .iconst 0, 1, 0, 0, 0, 0, 0, []),
  (15, .putfield 310, 3, 9, 29, 0, 0, 0, [168]),
  (18, .lload_n 3, 1, 3, 0, 0, 0, 0, []),
  (19, .lload 5, 2, 5, 0, 0, 0, 0, []),
  (21, .lcmp, 4, 27, 2, 0, 0, 0, []),
  (25, .iconst 0, 1, 0, 0, 0, 0, 0, []),
  (26, .ireturn, 1, 1, 0, 0, 0, 0, []),
  (27, .lload_n 3, 1, 3, 0, 0, 0, 0, []),
  (28, .lload 5, 2, 5, 0, 0, 0, 0, []),
  (30, .lcmp, 4, 120, 3, 0, 0, 0, []),
  (34, .bipush 32, 2, 0, 0, 0, 0, 32, []),
  (36, .istore 7, 2, 7, 0, 0, 0, 0, []),
  (38, .iload 7, 2, 7, 0, 0, 0, 0, []),
  (40, .ifCond .le 38, 3, 78, 0, 0, 0, 0, []),
  (43, .lload_n 3, 1, 3, 0, 0, 0, 0, []),
  (44, .iload 7, 2, 7, 0, 0, 0, 0, []),
  (46, .iconst 1, 1, 0, 0, 0, 0, 1, []),
  (47, .isub, 1, 0, 0, 0, 0, 0, []),
  (48, .invokestatic 129, 3, 141, 1, 1, 1, 0, [139]),
  (51, .lrem, 1, 0, 0, 0, 0, 0, []),
  (52, .lconst 0, 1, 0, 0, 0, 0, 0, []),
  (53, .lcmp, 4, 78, 1, 0, 0, 0, []),
  (57, .lload_n 3, 1, 3, 0, 0, 0, 0, []),
  (58, .iload 7, 2, 7, 0, 0, 0, 0, []),
  (60, .iconst 1, 1, 0, 0, 0, 0, 1, []),
  (61, .isub, 1, 0, 0, 0, 0, 0, []),
  (62, .invokestatic 129, 3, 141, 1, 1, 1, 0, [139]),
  (65, .ladd, 1, 0, 0, 0, 0, 0, []),
  (66, .lload 5, 2, 5, 0, 0, 0, 0, []),
  (68, .lcmp, 4, 78, 4, 0, 0, 0, []),
  (72, .iinc 7 (-1), 3, 7, 0, 0, 0, (-1), []),
  (75, .goto (-37), 3, 38, 0, 0, 0, 0, []),
  (78, .aload_n 0, 1, 0, 0, 0, 0, 0, []),
  (79, .getfield 66, 3, 9, 30, 4, 64, 19, [143]),
  (82, .aload_n 0, 1, 0, 0, 0, 0, 0, []),
  (83, .getfield 310, 3, 9, 29, 0, 0, 0, [168]),
  (86, .lload_n 3, 1, 3, 0, 0, 0, 0, []),
  (87, .lastore, 1, 0, 0, 0, 0, 0, []),
  (88, .aload_n 0, 1, 0, 0, 0, 0, 0, []),
  (89, .getfield 69, 3, 9, 31, 3, 64, 20, [144]),
  (92, .aload_n 0, 1, 0, 0, 0, 0, 0, []),
  (93, .getfield 310, 3, 9, 29, 0, 0, 0, [168]),
  (96, .iload 7, 2, 7, 0, 0, 0, 0, []),
  (98, .iastore, 1, 0, 0, 0, 0, 0, []),
  (99, .aload_n 0, 1, 0, 0, 0, 0, 0, []),
  (100, .dup, 1, 0, 0, 0, 0, 0, []),
  (101, .getfield 310, 3, 9, 29, 0, 0, 0, [168]),
  (104, .iconst 1, 1, 0, 0, 0, 0, 1, []),
  (105, .iadd, 1, 0, 0, 0, 0, 0, []),
  (106, .putfield 310, 3, 9, 29, 0, 0, 0, [168]),
  (109, .lload_n 3, 1, 3, 0, 0, 0, 0, []),
  (110, .iload 7, 2, 7, 0, 0, 0, 0, []),
  (112, .invokestatic 129, 3, 141, 1, 1, 1, 0, [139]),
  (115, .ladd, 1, 0, 0, 0, 0, 0, []),
  (116, .lstore_n 3, 1, 3, 0, 0, 0, 0, []),
  (117, .goto (-90), 3, 27, 0, 0, 0, 0, []),
  (120, .iconst 1, 1, 0, 0, 0, 0, 1, []),
  (121, .ireturn, 1, 1, 0, 0, 0, 0, [])]
abbrev kMo_cover : Nat := 188
def cMo_cover : List xE := [(0, .aload_n 0, 1, 0, 0, 0, 0, 0, []),
  (1, .iload_n 1, 1, 1, 0, 0, 0, 0, []),
  (2, .iload_n 2, 1, 2, 0, 0, 0, 0, []),
  (3, .invokevirtual 313, 3, 187, 3, 8, 1, 9, [177]),
  (6, .ifCond .ne 7, 3, 13, 0, 0, 0, 0, []),
  (9, .ldc2_w 316, 3, 0, 0, 0, 0, (-2), [23]),
  (12, .lreturn, 1, 0, 0, 0, 0, 0, []),
  (13, .iload_n 3, 1, 3, 0, 0, 0, 0, []),
  (14, .iconst (-1), 1, 0, 0, 0, 0, (-1), []),
  (15, .if_icmp .ne 20, 3, 35, 0, 0, 0, 0, []),
  (18, .iload 4, 2, 4, 0, 0, 0, 0, []),
  (20, .ifCond .ne 11, 3, 31, 0, 0, 0, 0, []),
  (23, .aload_n 0, 1, 0, 0, 0, 0, 0, []),
  (24, .getfield 310, 3, 9, 29, 0, 0, 0, [168]),
  (27, .i2l, 1, 0, 0, 0, 0, 0, []),
  (28, .goto 6, 3, 34, 0, 0, 0, 0, []),
  (31, .ldc2_w 316, 3, 0, 0, 0, 0, (-2), [23]),
  (34, .lreturn, 1, 0, 0, 0, 0, 0, []),
  (35, .iload_n 3, 1, 3, 0, 0, 0, 0, []),
  (36, .i2l, 1, 0, 0, 0, 0, 0, []),
  (37, .lconst 0, 1, 0, 0, 0, 0, 0, []),
  (38, .aload_n 0, 1, 0, 0, 0, 0, 0, []),
  (39, .getfield 310, 3, 9, 29, 0, 0, 0, [168]),
  (42, .iconst 1, 1, 0, 0, 0, 0, 1, []),
  (43, .isub, 1, 0, 0, 0, 0, 0, []),
  (44, .i2l, 1, 0, 0, 0, 0, 0, []),
  (45, .invokestatic 121, 3, 138, 3, 6, 1, 0, [137]),
  (48, .ifCond .eq 14, 3, 62, 0, 0, 0, 0, []),
  (51, .iload 4, 2, 4, 0, 0, 0, 0, []),
  (53, .i2l, 1, 0, 0, 0, 0, 0, []),
  (54, .lconst 0, 1, 0, 0, 0, 0, 0, []),
  (55, .lconst 1, 1, 0, 0, 0, 0, 1, []),
  (56, .invokestatic 121, 3, 138, 3, 6, 1, 0, [137]),
  (59, .ifCond .ne 7, 3, 66, 0, 0, 0, 0, []),
  (62, .ldc2_w 316, 3, 0, 0, 0, 0, (-2), [23]),
  (65, .lreturn, 1, 0, 0, 0, 0, 0, []),
  (66, .iload 4, 2, 4, 0, 0, 0, 0, []),
  (68, .ifCond .ne 13, 3, 81, 0, 0, 0, 0, []),
  (71, .aload_n 0, 1, 0, 0, 0, 0, 0, []),
  (72, .getfield 69, 3, 9, 31, 3, 64, 20, [144]),
  (75, .iload_n 3, 1, 3, 0, 0, 0, 0, []),
  (76, .iaload, 1, 0, 0, 0, 0, 0, []),
  (77, .i2l, 1, 0, 0, 0, 0, 0, []),
  (78, .goto 9, 3, 87, 0, 0, 0, 0, []),
  (81, .aload_n 0, 1, 0, 0, 0, 0, 0, []),
  (82, .getfield 66, 3, 9, 30, 4, 64, 19, [143]),
  (85, .iload_n 3, 1, 3, 0, 0, 0, 0, []),
  (86, .laload, 1, 0, 0, 0, 0, 0, []),
  (87, .lreturn, 1, 0, 0, 0, 0, 0, [])]
abbrev kMo_range : Nat := 189
def cMo_range : List xE := [(0, .iload_n 3, 1, 3, 0, 0, 0, 0, []),
  (1, .iload 4, 2, 4, 0, 0, 0, 0, []),
  (3, .invokestatic 290, 3, 143, 2, 2, 1, 0, [171]),
  (6, .ifCond .eq 12, 3, 18, 0, 0, 0, 0, []),
  (9, .aload_n 0, 1, 0, 0, 0, 0, 0, []),
  (10, .iload_n 1, 1, 1, 0, 0, 0, 0, []),
  (11, .iload_n 2, 1, 2, 0, 0, 0, 0, []),
  (12, .invokevirtual 313, 3, 187, 3, 8, 1, 9, [177]),
  (15, .ifCond .ne 5, 3, 20, 0, 0, 0, 0, []),
  (18, .iconst (-1), 1, 0, 0, 0, 0, (-1), []),
  (19, .ireturn, 1, 0, 0, 0, 0, 0, []),
  (20, .bipush 10, 2, 0, 0, 0, 0, 10, []),
  (22, .iload_n 3, 1, 3, 0, 0, 0, 0, []),
  (23, .imul, 1, 0, 0, 0, 0, 0, []),
  (24, .iload 4, 2, 4, 0, 0, 0, 0, []),
  (26, .iadd, 1, 0, 0, 0, 0, 0, []),
  (27, .istore 5, 2, 5, 0, 0, 0, 0, []),
  (29, .iconst 1, 1, 0, 0, 0, 0, 1, []),
  (30, .istore 6, 2, 6, 0, 0, 0, 0, []),
  (32, .iconst 0, 1, 0, 0, 0, 0, 0, []),
  (33, .istore 7, 2, 7, 0, 0, 0, 0, []),
  (35, .iconst 0, 1, 0, 0, 0, 0, 0, []),
  (36, .istore 8, 2, 8, 0, 0, 0, 0, []),
  (38, .iload 8, 2, 8, 0, 0, 0, 0, []),
  (40, .aload_n 0, 1, 0, 0, 0, 0, 0, []),
  (41, .getfield 310, 3, 9, 29, 0, 0, 0, [168]),
  (44, .if_icmp .ge 76, 3, 120, 0, 0, 0, 0, []),
  (47, .iload 6, 2, 6, 0, 0, 0, 0, []),
  (49, .ifCond .eq 30, 3, 79, 0, 0, 0, 0, []),
  (52, .aload_n 0, 1, 0, 0, 0, 0, 0, []),
  (53, .aload_n 0, 1, 0, 0, 0, 0, 0, []),
  (54, .getfield 66, 3, 9, 30, 4, 64, 19, [143]),
  (57, .iload 8, 2, 8, 0, 0, 0, 0, []),
  (59, .laload, 1, 0, 0, 0, 0, 0, []),
  (60, .aload_n 0, 1, 0, 0, 0, 0, 0, []),
  (61, .getfield 69, 3, 9, 31, 3, 64, 20, [144]),
  (64, .iload 8, 2, 8, 0, 0, 0, 0, []),
  (66, .iaload, 1, 0, 0, 0, 0, 0, []),
  (67, .iload 5, 2, 5, 0, 0, 0, 0, []),
  (69, .invokevirtual 293, 3, 183, 4, 6, 1, 9, [172]),
  (72, .ifCond .eq 7, 3, 79, 0, 0, 0, 0, []),
  (75, .iconst 1, 1, 0, 0, 0, 0, 1, []),
  (76, .goto 4, 3, 80, 0, 0, 0, 0, []),
  (79, .iconst 0, 1, 0, 0, 0, 0, 0, []),
  (80, .istore 6, 2, 6, 0, 0, 0, 0, []),
  (82, .iload 7, 2, 7, 0, 0, 0, 0, []),
  (84, .aload_n 0, 1, 0, 0, 0, 0, 0, []),
  (85, .aload_n 0, 1, 0, 0, 0, 0, 0, []),
  (86, .getfield 66, 3, 9, 30, 4, 64, 19, [143]),
  (89, .iload 8, 2, 8, 0, 0, 0, 0, []),
  (91, .laload, 1, 0, 0, 0, 0, 0, []),
  (92, .aload_n 0, 1, 0, 0, 0, 0, 0, []),
  (93, .getfield 69, 3, 9, 31, 3, 64, 20, [144]),
  (96, .iload 8, 2, 8, 0, 0, 0, 0, []),
  (98, .iaload, 1, 0, 0, 0, 0, 0, []),
  (99, .invokevirtual 146, 3, 145, 3, 5, 1, 9, [143]),
  (102, .iconst (-1), 1, 0, 0, 0, 0, (-1), []),
  (103, .if_icmp .ne 7, 3, 110, 0, 0, 0, 0, []),
  (106, .iconst 1, 1, 0, 0, 0, 0, 1, []),
  (107, .goto 4, 3, 111, 0, 0, 0, 0, []),
  (110, .iconst 0, 1, 0, 0, 0, 0, 0, []),
  (111, .iadd, 1, 0, 0, 0, 0, 0, []),
  (112, .istore 7, 2, 7, 0, 0, 0, 0, []),
  (114, .iinc 8 1, 3, 8, 0, 0, 0, 1, []),
  (117, .goto (-79), 3, 38, 0, 0, 0, 0, []),
  (120, .iload 6, 2, 6, 0, 0, 0, 0, []),
  (122, .ifCond .eq 6, 3, 128, 0, 0, 0, 0, []),
  (125, .bipush (-2), 2, 0, 0, 0, 0, (-2), []),
  (127, .ireturn, 1, 0, 0, 0, 0, 0, []),
  (128, .aload_n 0, 1, 0, 0, 0, 0, 0, []),
  (129, .getfield 7, 3, 9, 0, 3, 259, 1, [125]),
  (132, .iconst 0, 1, 0, 0, 0, 0, 0, []),
  (133, .iaload, 1, 0, 0, 0, 0, 0, []),
  (134, .iload 7, 2, 7, 0, 0, 0, 0, []),
  (136, .iadd, 1, 0, 0, 0, 0, 0, []),
  (137, .bipush 60, 2, 0, 0, 0, 0, 60, []),
  (139, .if_icmp .le 6, 3, 145, 0, 0, 0, 0, []),
  (142, .bipush (-3), 2, 0, 0, 0, 0, (-3), []),
  (144, .ireturn, 1, 0, 0, 0, 0, 0, []),
  (145, .aload_n 0, 1, 0, 0, 0, 0, 0, []),
  (146, .invokevirtual 297, 3, 176, 1, 2, 0, 9, [173]),
  (149, .iconst 0, 1, 0, 0, 0, 0, 0, []),
  (150, .istore 8, 2, 8, 0, 0, 0, 0, []),
  (152, .iload 8, 2, 8, 0, 0, 0, 0, []),
  (154, .aload_n 0, 1, 0, 0, 0, 0, 0, []),
  (155, .getfield 310, 3, 9, 29, 0, 0, 0, [168]),
  (158, .if_icmp .ge 31, 3, 189, 0, 0, 0, 0, []),
  (161, .aload_n 0, 1, 0, 0, 0, 0, 0, []),
  (162, .aload_n 0, 1, 0, 0, 0, 0, 0, []),
  (163, .getfield 66, 3, 9, 30, 4, 64, 19, [143]),
  (166, .iload 8, 2, 8, 0, 0, 0, 0, []),
  (168, .laload, 1, 0, 0, 0, 0, 0, []),
  (169, .aload_n 0, 1, 0, 0, 0, 0, 0, []),
  (170, .getfield 69, 3, 9, 31, 3, 64, 20, [144]),
  (173, .iload 8, 2, 8, 0, 0, 0, 0, []),
  (175, .iaload, 1, 0, 0, 0, 0, 0, []),
  (176, .iload 5, 2, 5, 0, 0, 0, 0, []),
  (178, .invokevirtual 300, 3, 152, 4, 7, 1, 9, [174]),
  (181, .istore 9, 2, 9, 0, 0, 0, 0, []),
  (183, .iinc 8 1, 3, 8, 0, 0, 0, 1, []),
  (186, .goto (-34), 3, 152, 0, 0, 0, 0, []),
  (189, .aload_n 0, 1, 0, 0, 0, 0, 0, []),
  (190, .invokevirtual 304, 3, 177, 1, 1, 0, 9, [175]),
  (193, .aload_n 0, 1, 0, 0, 0, 0, 0, []),
  (194, .getfield 310, 3, 9, 29, 0, 0, 0, [168]),
  (197, .ireturn, 1, 0, 0, 0, 0, 0, [])]
abbrev kMo_addsStride : Nat := 190
def cMo_addsStride : List xE := [(0, .iload_n 1, 1, 1, 0, 0, 0, 0, []),
  (1, .istore_n 2, 1, 2, 0, 0, 0, 0, []),
  (2, .iconst 0, 1, 0, 0, 0, 0, 0, []),
  (3, .istore_n 3, 1, 3, 0, 0, 0, 0, []),
  (4, .iload_n 3, 1, 3, 0, 0, 0, 0, []),
  (5, .aload_n 0, 1, 0, 0, 0, 0, 0, []),
  (6, .getfield 318, 3, 9, 32, 0, 0, 0, [169]),
  (9, .if_icmp .ge 18, 3, 27, 0, 0, 0, 0, []),
  (12, .iload_n 2, 1, 2, 0, 0, 0, 0, []),
  (13, .aload_n 0, 1, 0, 0, 0, 0, 0, []),
  (14, .getfield 72, 3, 9, 33, 3, 24, 21, [145]),
  (17, .iload_n 3, 1, 3, 0, 0, 0, 0, []),
  (18, .iaload, 1, 0, 0, 0, 0, 0, []),
  (19, .iadd, 1, 0, 0, 0, 0, 0, []),
  (20, .istore_n 2, 1, 2, 0, 0, 0, 0, []),
  (21, .iinc 3 1, 3, 3, 0, 0, 0, 1, []),
  (24, .goto (-20), 3, 4, 0, 0, 0, 0, []),
  (27, .iload_n 1, 1, 1, 0, 0, 0, 0, []),
  (28, .i2l, 1, 0, 0, 0, 0, 0, []),
  (29, .ldc2_w 321, 3, 0, 0, 0, 0, 2, [24]),
  (32, .ldc2_w 323, 3, 0, 0, 0, 0, 6, [25]),
  (35, .invokestatic 121, 3, 138, 3, 6, 1, 0, [137]),
  (38, .ifCond .eq 9, 3, 47, 0, 0, 0, 0, []),
  (41, .iload_n 2, 1, 2, 0, 0, 0, 0, []),
  (42, .bipush 32, 2, 0, 0, 0, 0, 32, []),
  (44, .if_icmp .le 5, 3, 49, 0, 0, 0, 0, []),
  (47, .iconst 0, 1, 0, 0, 0, 0, 0, []),
  (48, .ireturn, 1, 1, 0, 0, 0, 0, []),
  (49, .aload_n 0, 1, 0, 0, 0, 0, 0, []),
  (50, .getfield 72, 3, 9, 33, 3, 24, 21, [145]),
  (53, .aload_n 0, 1, 0, 0, 0, 0, 0, []),
  (54, .getfield 318, 3, 9, 32, 0, 0, 0, [169]),
  (57, .iload_n 1, 1, 1, 0, 0, 0, 0, []),
  (58, .iastore, 1, 0, 0, 0, 0, 0, []),
  (59, .aload_n 0, 1, 0, 0, 0, 0, 0, []),
  (60, .dup, 1, 0, 0, 0, 0, 0, []),
  (61, .getfield 318, 3, 9, 32, 0, 0, 0, [169]),
  (64, .iconst 1, 1, 0, 0, 0, 0, 1, []),
  (65, .iadd, 1, 0, 0, 0, 0, 0, []),
  (66, .putfield 318, 3, 9, 32, 0, 0, 0, [169]),
  (69, .iconst 1, 1, 0, 0, 0, 0, 1, []),
  (70, .ireturn, 1, 1, 0, 0, 0, 0, [])]
abbrev kMo_strideSum : Nat := 191
def cMo_strideSum : List xE := [(0, .iconst 0, 1, 0, 0, 0, 0, 0, []),
  (1, .istore_n 1, 1, 1, 0, 0, 0, 0, []),
  (2, .iconst 0, 1, 0, 0, 0, 0, 0, []),
  (3, .istore_n 2, 1, 2, 0, 0, 0, 0, []),
  (4, .iload_n 2, 1, 2, 0, 0, 0, 0, []),
  (5, .aload_n 0, 1, 0, 0, 0, 0, 0, []),
  (6, .getfield 318, 3, 9, 32, 0, 0, 0, [169]),
  (9, .if_icmp .ge 18, 3, 27, 0, 0, 0, 0, []),
  (12, .iload_n 1, 1, 1, 0, 0, 0, 0, []),
  (13, .aload_n 0, 1, 0, 0, 0, 0, 0, []),
  (14, .getfield 72, 3, 9, 33, 3, 24, 21, [145]),
  (17, .iload_n 2, 1, 2, 0, 0, 0, 0, []),
  (18, .iaload, 1, 0, 0, 0, 0, 0, []),
  (19, .iadd, 1, 0, 0, 0, 0, 0, []),
  (20, .istore_n 1, 1, 1, 0, 0, 0, 0, []),
  (21, .iinc 2 1, 3, 2, 0, 0, 0, 1, []),
  (24, .goto (-20), 3, 4, 0, 0, 0, 0, []),
  (27, .iload_n 1, 1, 1, 0, 0, 0, 0, []),
  (28, .ireturn, 1, 0, 0, 0, 0, 0, [])]
abbrev kMo_takesStrides : Nat := 192
def cMo_takesStrides : List xE := [(0, .aload_n 0, 1, 0, 0, 0, 0, 0, []),
  (1, .getfield 7, 3, 9, 0, 3, 259, 1, [125]),
  (4, .iconst 1, 1, 0, 0, 0, 0, 1, []),
  (5, .aload_n 0, 1, 0, 0, 0, 0, 0, []),
  (6, .getfield 318, 3, 9, 32, 0, 0, 0, [169]),
  (9, .iastore, 1, 0, 0, 0, 0, 0, []),
  (10, .iconst 0, 1, 0, 0, 0, 0, 0, []),
  (11, .istore_n 1, 1, 1, 0, 0, 0, 0, []),
  (12, .iload_n 1, 1, 1, 0, 0, 0, 0, []),
  (13, .bipush 16, 2, 0, 0, 0, 0, 16, []),
  (15, .if_icmp .ge 37, 3, 52, 0, 0, 0, 0, []),
  (18, .aload_n 0, 1, 0, 0, 0, 0, 0, []),
  (19, .getfield 7, 3, 9, 0, 3, 259, 1, [125]),
  (22, .sipush 243, 3, 0, 0, 0, 0, 243, []),
  (25, .iload_n 1, 1, 1, 0, 0, 0, 0, []),
  (26, .iadd, 1, 0, 0, 0, 0, 0, []),
  (27, .iload_n 1, 1, 1, 0, 0, 0, 0, []),
  (28, .aload_n 0, 1, 0, 0, 0, 0, 0, []),
  (29, .getfield 318, 3, 9, 32, 0, 0, 0, [169]),
  (32, .if_icmp .ge 12, 3, 44, 0, 0, 0, 0, []),
  (35, .aload_n 0, 1, 0, 0, 0, 0, 0, []),
  (36, .getfield 72, 3, 9, 33, 3, 24, 21, [145]),
  (39, .iload_n 1, 1, 1, 0, 0, 0, 0, []),
  (40, .iaload, 1, 0, 0, 0, 0, 0, []),
  (41, .goto 4, 3, 45, 0, 0, 0, 0, []),
  (44, .iconst 0, 1, 0, 0, 0, 0, 0, []),
  (45, .iastore, 1, 0, 0, 0, 0, 0, []),
  (46, .iinc 1 1, 3, 1, 0, 0, 0, 1, []),
  (49, .goto (-37), 3, 12, 0, 0, 0, 0, []),
  (52, .return_, 1, 0, 0, 0, 0, 0, [])]
abbrev kMo_readsDigits : Nat := 193
def cMo_readsDigits : List xE := [(0, .lconst 1, 1, 0, 0, 0, 0, 1, []),
  (1, .lstore_n 3, 1, 3, 0, 0, 0, 0, []),
  (2, .lload_n 1, 1, 1, 0, 0, 0, 0, []),
  (3, .lload_n 3, 1, 3, 0, 0, 0, 0, []),
  (4, .ldiv, 1, 0, 0, 0, 0, 0, []),
  (5, .ldc2_w 134, 3, 0, 0, 0, 0, 9, [20]),
  (8, .lcmp, 4, 21, 5, 0, 0, 0, []),
  (12, .lload_n 3, 1, 3, 0, 0, 0, 0, []),
  (13, .ldc2_w 325, 3, 0, 0, 0, 0, 10, [26]),
  (16, .lmul, 1, 0, 0, 0, 0, 0, []),
  (17, .lstore_n 3, 1, 3, 0, 0, 0, 0, []),
  (18, .goto (-16), 3, 2, 0, 0, 0, 0, []),
  (21, .aload_n 0, 1, 0, 0, 0, 0, 0, []),
  (22, .iconst 0, 1, 0, 0, 0, 0, 0, []),
  (23, .putfield 318, 3, 9, 32, 0, 0, 0, [169]),
  (26, .lload_n 3, 1, 3, 0, 0, 0, 0, []),
  (27, .lstore 5, 2, 5, 0, 0, 0, 0, []),
  (29, .lload 5, 2, 5, 0, 0, 0, 0, []),
  (31, .lconst 0, 1, 0, 0, 0, 0, 0, []),
  (32, .lcmp, 4, 65, 5, 0, 0, 0, []),
  (36, .aload_n 0, 1, 0, 0, 0, 0, 0, []),
  (37, .lload_n 1, 1, 1, 0, 0, 0, 0, []),
  (38, .lload 5, 2, 5, 0, 0, 0, 0, []),
  (40, .ldiv, 1, 0, 0, 0, 0, 0, []),
  (41, .ldc2_w 325, 3, 0, 0, 0, 0, 10, [26]),
  (44, .lrem, 1, 0, 0, 0, 0, 0, []),
  (45, .l2i, 1, 0, 0, 0, 0, 0, []),
  (46, .invokevirtual 327, 3, 190, 2, 4, 1, 9, [178]),
  (49, .ifCond .ne 5, 3, 54, 0, 0, 0, 0, []),
  (52, .iconst 0, 1, 0, 0, 0, 0, 0, []),
  (53, .ireturn, 1, 1, 0, 0, 0, 0, []),
  (54, .lload 5, 2, 5, 0, 0, 0, 0, []),
  (56, .ldc2_w 325, 3, 0, 0, 0, 0, 10, [26]),
  (59, .ldiv, 1, 0, 0, 0, 0, 0, []),
  (60, .lstore 5, 2, 5, 0, 0, 0, 0, []),
  (62, .goto (-33), 3, 29, 0, 0, 0, 0, []),
  (65, .aload_n 0, 1, 0, 0, 0, 0, 0, []),
  (66, .invokevirtual 330, 3, 191, 1, 3, 1, 9, [179]),
  (69, .bipush 32, 2, 0, 0, 0, 0, 32, []),
  (71, .if_icmp .ne 7, 3, 78, 0, 0, 0, 0, []),
  (74, .iconst 1, 1, 0, 0, 0, 0, 1, []),
  (75, .goto 4, 3, 79, 0, 0, 0, 0, []),
  (78, .iconst 0, 1, 0, 0, 0, 0, 0, []),
  (79, .ireturn, 1, 1, 0, 0, 0, 0, [])]
abbrev kMo_areStrides : Nat := 194
def cMo_areStrides : List xE := [(0, .aload_n 0, 1, 0, 0, 0, 0, 0, []),
  (1, .getfield 7, 3, 9, 0, 3, 259, 1, [125]),
  (4, .iconst 1, 1, 0, 0, 0, 0, 1, []),
  (5, .iaload, 1, 0, 0, 0, 0, 0, []),
  (6, .aload_n 0, 1, 0, 0, 0, 0, 0, []),
  (7, .getfield 318, 3, 9, 32, 0, 0, 0, [169]),
  (10, .if_icmp .ne 7, 3, 17, 0, 0, 0, 0, []),
  (13, .iconst 1, 1, 0, 0, 0, 0, 1, []),
  (14, .goto 4, 3, 18, 0, 0, 0, 0, []),
  (17, .iconst 0, 1, 0, 0, 0, 0, 0, []),
  (18, .istore_n 1, 1, 1, 0, 0, 0, 0, []),
  (19, .iconst 0, 1, 0, 0, 0, 0, 0, []),
  (20, .istore_n 2, 1, 2, 0, 0, 0, 0, []),
  (21, .iload_n 2, 1, 2, 0, 0, 0, 0, []),
  (22, .aload_n 0, 1, 0, 0, 0, 0, 0, []),
  (23, .getfield 318, 3, 9, 32, 0, 0, 0, [169]),
  (26, .if_icmp .ge 38, 3, 64, 0, 0, 0, 0, []),
  (29, .iload_n 1, 1, 1, 0, 0, 0, 0, []),
  (30, .ifCond .eq 26, 3, 56, 0, 0, 0, 0, []),
  (33, .aload_n 0, 1, 0, 0, 0, 0, 0, []),
  (34, .getfield 7, 3, 9, 0, 3, 259, 1, [125]),
  (37, .sipush 243, 3, 0, 0, 0, 0, 243, []),
  (40, .iload_n 2, 1, 2, 0, 0, 0, 0, []),
  (41, .iadd, 1, 0, 0, 0, 0, 0, []),
  (42, .iaload, 1, 0, 0, 0, 0, 0, []),
  (43, .aload_n 0, 1, 0, 0, 0, 0, 0, []),
  (44, .getfield 72, 3, 9, 33, 3, 24, 21, [145]),
  (47, .iload_n 2, 1, 2, 0, 0, 0, 0, []),
  (48, .iaload, 1, 0, 0, 0, 0, 0, []),
  (49, .if_icmp .ne 7, 3, 56, 0, 0, 0, 0, []),
  (52, .iconst 1, 1, 0, 0, 0, 0, 1, []),
  (53, .goto 4, 3, 57, 0, 0, 0, 0, []),
  (56, .iconst 0, 1, 0, 0, 0, 0, 0, []),
  (57, .istore_n 1, 1, 1, 0, 0, 0, 0, []),
  (58, .iinc 2 1, 3, 2, 0, 0, 0, 1, []),
  (61, .goto (-40), 3, 21, 0, 0, 0, 0, []),
  (64, .iload_n 1, 1, 1, 0, 0, 0, 0, []),
  (65, .ireturn, 1, 1, 0, 0, 0, 0, [])]
abbrev kMo_strides : Nat := 195
def cMo_strides : List xE := [(0, .lload_n 1, 1, 1, 0, 0, 0, 0, []),
  (1, .lconst 0, 1, 0, 0, 0, 0, 0, []),
  (2, .lcmp, 4, 14, 5, 0, 0, 0, []),
  (6, .aload_n 0, 1, 0, 0, 0, 0, 0, []),
  (7, .lload_n 1, 1, 1, 0, 0, 0, 0, []),
  (8, .invokevirtual 333, 3, 193, 2, 7, 1, 9, [180]),
  (11, .ifCond .ne 5, 3, 16, 0, 0, 0, 0, []),
  (14, .iconst (-1), 1, 0, 0, 0, 0, (-1), []),
  (15, .ireturn, 1, 0, 0, 0, 0, 0, []),
  (16, .aload_n 0, 1, 0, 0, 0, 0, 0, []),
  (17, .invokevirtual 337, 3, 194, 1, 3, 1, 9, [181]),
  (20, .ifCond .eq 6, 3, 26, 0, 0, 0, 0, []),
  (23, .bipush (-2), 2, 0, 0, 0, 0, (-2), []),
  (25, .ireturn, 1, 0, 0, 0, 0, 0, []),
  (26, .aload_n 0, 1, 0, 0, 0, 0, 0, []),
  (27, .invokevirtual 297, 3, 176, 1, 2, 0, 9, [173]),
  (30, .aload_n 0, 1, 0, 0, 0, 0, 0, []),
  (31, .invokevirtual 341, 3, 192, 1, 2, 0, 9, [182]),
  (34, .aload_n 0, 1, 0, 0, 0, 0, 0, []),
  (35, .invokevirtual 304, 3, 177, 1, 1, 0, 9, [175]),
  (38, .aload_n 0, 1, 0, 0, 0, 0, 0, []),
  (39, .getfield 318, 3, 9, 32, 0, 0, 0, [169]),
  (42, .ireturn, 1, 0, 0, 0, 0, 0, [])]
abbrev kMo_feed : Nat := 196
def cMo_feed : List xE := [(0, .aload_n 0, 1, 0, 0, 0, 0, 0, []),
  (1, .getfield 344, 3, 9, 35, 0, 0, 0, [170]),
  (4, .sipush 380, 3, 0, 0, 0, 0, 380, []),
  (7, .if_icmp .le 5, 3, 12, 0, 0, 0, 0, []),
  (10, .iconst (-1), 1, 0, 0, 0, 0, (-1), []),
  (11, .ireturn, 1, 0, 0, 0, 0, 0, []),
  (12, .iconst 0, 1, 0, 0, 0, 0, 0, []),
  (13, .istore 6, 2, 6, 0, 0, 0, 0, []),
  (15, .iload 6, 2, 6, 0, 0, 0, 0, []),
  (17, .bipush 20, 2, 0, 0, 0, 0, 20, []),
  (19, .if_icmp .ge 83, 3, 102, 0, 0, 0, 0, []),
  (22, .iload 6, 2, 6, 0, 0, 0, 0, []),
  (24, .iconst 4, 1, 0, 0, 0, 0, 4, []),
  (25, .if_icmp .ge 7, 3, 32, 0, 0, 0, 0, []),
  (28, .iload_n 1, 1, 1, 0, 0, 0, 0, []),
  (29, .goto 39, 3, 68, 0, 0, 0, 0, []),
  (32, .iload 6, 2, 6, 0, 0, 0, 0, []),
  (34, .bipush 8, 2, 0, 0, 0, 0, 8, []),
  (36, .if_icmp .ge 7, 3, 43, 0, 0, 0, 0, []),
  (39, .iload_n 2, 1, 2, 0, 0, 0, 0, []),
  (40, .goto 28, 3, 68, 0, 0, 0, 0, []),
  (43, .iload 6, 2, 6, 0, 0, 0, 0, []),
  (45, .bipush 12, 2, 0, 0, 0, 0, 12, []),
  (47, .if_icmp .ge 7, 3, 54, 0, 0, 0, 0, []),
  (50, .iload_n 3, 1, 3, 0, 0, 0, 0, []),
  (51, .goto 17, 3, 68, 0, 0, 0, 0, []),
  (54, .iload 6, 2, 6, 0, 0, 0, 0, []),
  (56, .bipush 16, 2, 0, 0, 0, 0, 16, []),
  (58, .if_icmp .ge 8, 3, 66, 0, 0, 0, 0, []),
  (61, .iload 4, 2, 4, 0, 0, 0, 0, []),
  (63, .goto 5, 3, 68, 0, 0, 0, 0, []),
  (66, .iload 5, 2, 5, 0, 0, 0, 0, []),
  (68, .istore 7, 2, 7, 0, 0, 0, 0, []),
  (70, .aload_n 0, 1, 0, 0, 0, 0, 0, []),
  (71, .getfield 75, 3, 9, 34, 12, 400, 22, [146]),
  (74, .aload_n 0, 1, 0, 0, 0, 0, 0, []),
  (75, .getfield 344, 3, 9, 35, 0, 0, 0, [170]),
  (78, .iload 6, 2, 6, 0, 0, 0, 0, []),
  (80, .iadd, 1, 0, 0, 0, 0, 0, []),
  (81, .iload 7, 2, 7, 0, 0, 0, 0, []),
  (83, .bipush 24, 2, 0, 0, 0, 0, 24, []),
  (85, .bipush 8, 2, 0, 0, 0, 0, 8, []),
  (87, .iload 6, 2, 6, 0, 0, 0, 0, []),
  (89, .iconst 4, 1, 0, 0, 0, 0, 4, []),
  (90, .irem, 1, 0, 0, 0, 0, 0, []),
  (91, .imul, 1, 0, 0, 0, 0, 0, []),
  (92, .isub, 1, 0, 0, 0, 0, 0, []),
  (93, .ishr, 1, 0, 0, 0, 0, 0, []),
  (94, .i2b, 1, 0, 0, 0, 0, 0, []),
  (95, .bastore, 1, 0, 0, 0, 0, 0, []),
  (96, .iinc 6 1, 3, 6, 0, 0, 0, 1, []),
  (99, .goto (-84), 3, 15, 0, 0, 0, 0, []),
  (102, .aload_n 0, 1, 0, 0, 0, 0, 0, []),
  (103, .dup, 1, 0, 0, 0, 0, 0, []),
  (104, .getfield 344, 3, 9, 35, 0, 0, 0, [170]),
  (107, .bipush 20, 2, 0, 0, 0, 0, 20, []),
  (109, .iadd, 1, 0, 0, 0, 0, 0, []),
  (110, .putfield 344, 3, 9, 35, 0, 0, 0, [170]),
  (113, .aload_n 0, 1, 0, 0, 0, 0, 0, []),
  (114, .getfield 344, 3, 9, 35, 0, 0, 0, [170]),
  (117, .ireturn, 1, 0, 0, 0, 0, 0, [])]
abbrev kMo_end : Nat := 197
def cMo_end : List xE := [(0, .iload_n 1, 1, 1, 0, 0, 0, 0, []),
  (1, .i2l, 1, 0, 0, 0, 0, 0, []),
  (2, .lconst 0, 1, 0, 0, 0, 0, 0, []),
  (3, .aload_n 0, 1, 0, 0, 0, 0, 0, []),
  (4, .getfield 344, 3, 9, 35, 0, 0, 0, [170]),
  (7, .i2l, 1, 0, 0, 0, 0, 0, []),
  (8, .invokestatic 121, 3, 138, 3, 6, 1, 0, [137]),
  (11, .ifCond .ne 5, 3, 16, 0, 0, 0, 0, []),
  (14, .iconst (-1), 1, 0, 0, 0, 0, (-1), []),
  (15, .ireturn, 1, 0, 0, 0, 0, 0, []),
  (16, .aload_n 0, 1, 0, 0, 0, 0, 0, []),
  (17, .iload_n 1, 1, 1, 0, 0, 0, 0, []),
  (18, .putfield 344, 3, 9, 35, 0, 0, 0, [170]),
  (21, .iload_n 1, 1, 1, 0, 0, 0, 0, []),
  (22, .ireturn, 1, 0, 0, 0, 0, 0, [])]
abbrev kMo_byteAt : Nat := 198
def cMo_byteAt : List xE := [(0, .iload_n 1, 1, 1, 0, 0, 0, 0, []),
  (1, .aload_n 0, 1, 0, 0, 0, 0, 0, []),
  (2, .getfield 344, 3, 9, 35, 0, 0, 0, [170]),
  (5, .if_icmp .ge 16, 3, 21, 0, 0, 0, 0, []),
  (8, .aload_n 0, 1, 0, 0, 0, 0, 0, []),
  (9, .getfield 75, 3, 9, 34, 12, 400, 22, [146]),
  (12, .iload_n 1, 1, 1, 0, 0, 0, 0, []),
  (13, .baload, 1, 0, 0, 0, 0, 0, []),
  (14, .sipush 255, 3, 0, 0, 0, 0, 255, []),
  (17, .iand, 1, 0, 0, 0, 0, 0, []),
  (18, .goto 4, 3, 22, 0, 0, 0, 0, []),
  (21, .iconst (-1), 1, 0, 0, 0, 0, (-1), []),
  (22, .ireturn, 1, 0, 0, 0, 0, 0, [])]
abbrev kMo_next : Nat := 199
def cMo_next : List xE := [(0, .aload_n 0, 1, 0, 0, 0, 0, 0, []),
  (1, .aload_n 0, 1, 0, 0, 0, 0, 0, []),
  (2, .getfield 347, 3, 9, 36, 0, 0, 0, [171]),
  (5, .invokevirtual 350, 3, 198, 2, 2, 1, 9, [183]),
  (8, .bipush 32, 2, 0, 0, 0, 0, 32, []),
  (10, .if_icmp .ne 16, 3, 26, 0, 0, 0, 0, []),
  (13, .aload_n 0, 1, 0, 0, 0, 0, 0, []),
  (14, .dup, 1, 0, 0, 0, 0, 0, []),
  (15, .getfield 347, 3, 9, 36, 0, 0, 0, [171]),
  (18, .iconst 1, 1, 0, 0, 0, 0, 1, []),
  (19, .iadd, 1, 0, 0, 0, 0, 0, []),
  (20, .putfield 347, 3, 9, 36, 0, 0, 0, [171]),
  (23, .goto (-23), 3, 0, 0, 0, 0, 0, []),
  (26, .aload_n 0, 1, 0, 0, 0, 0, 0, []),
  (27, .aload_n 0, 1, 0, 0, 0, 0, 0, []),
  (28, .getfield 347, 3, 9, 36, 0, 0, 0, [171]),
  (31, .invokevirtual 350, 3, 198, 2, 2, 1, 9, [183]),
  (34, .ireturn, 1, 0, 0, 0, 0, 0, [])]
abbrev kMo_isDigitNext : Nat := 200
def cMo_isDigitNext : List xE := [(0, .aload_n 0, 1, 0, 0, 0, 0, 0, []),
  (1, .invokevirtual 353, 3, 199, 1, 1, 1, 9, [184]),
  (4, .i2l, 1, 0, 0, 0, 0, 0, []),
  (5, .ldc2_w 356, 3, 0, 0, 0, 0, 48, [27]),
  (8, .ldc2_w 358, 3, 0, 0, 0, 0, 57, [28]),
  (11, .invokestatic 121, 3, 138, 3, 6, 1, 0, [137]),
  (14, .ireturn, 1, 1, 0, 0, 0, 0, [])]
abbrev kMo_fails : Nat := 201
def cMo_fails : List xE := [(0, .aload_n 0, 1, 0, 0, 0, 0, 0, []),
  (1, .bipush 8, 2, 0, 0, 0, 0, 8, []),
  (3, .iload_n 2, 1, 2, 0, 0, 0, 0, []),
  (4, .imul, 1, 0, 0, 0, 0, 0, []),
  (5, .iload_n 1, 1, 1, 0, 0, 0, 0, []),
  (6, .iadd, 1, 0, 0, 0, 0, 0, []),
  (7, .putfield 360, 3, 9, 37, 0, 0, 0, [172]),
  (10, .iconst 0, 1, 0, 0, 0, 0, 0, []),
  (11, .ireturn, 1, 1, 0, 0, 0, 0, [])]
abbrev kMo_readsNumber : Nat := 202
def cMo_readsNumber : List xE := [(0, .aload_n 0, 1, 0, 0, 0, 0, 0, []),
  (1, .invokevirtual 363, 3, 200, 1, 1, 1, 9, [185]),
  (4, .istore_n 3, 1, 3, 0, 0, 0, 0, []),
  (5, .aload_n 0, 1, 0, 0, 0, 0, 0, []),
  (6, .aload_n 0, 1, 0, 0, 0, 0, 0, []),
  (7, .getfield 347, 3, 9, 36, 0, 0, 0, [171]),
  (10, .putfield 366, 3, 9, 39, 0, 0, 0, [173]),
  (13, .iload_n 3, 1, 3, 0, 0, 0, 0, []),
  (14, .ifCond .ne 13, 3, 27, 0, 0, 0, 0, []),
  (17, .aload_n 0, 1, 0, 0, 0, 0, 0, []),
  (18, .iconst 1, 1, 0, 0, 0, 0, 1, []),
  (19, .aload_n 0, 1, 0, 0, 0, 0, 0, []),
  (20, .getfield 347, 3, 9, 36, 0, 0, 0, [171]),
  (23, .invokevirtual 369, 3, 201, 3, 3, 1, 9, [186]),
  (26, .ireturn, 1, 1, 0, 0, 0, 0, []),
  (27, .iconst 0, 1, 0, 0, 0, 0, 0, []),
  (28, .istore 4, 2, 4, 0, 0, 0, 0, []),
  (30, .aload_n 0, 1, 0, 0, 0, 0, 0, []),
  (31, .aload_n 0, 1, 0, 0, 0, 0, 0, []),
  (32, .getfield 347, 3, 9, 36, 0, 0, 0, [171]),
  (35, .invokevirtual 350, 3, 198, 2, 2, 1, 9, [183]),
  (38, .i2l, 1, 0, 0, 0, 0, 0, []),
  (39, .ldc2_w 356, 3, 0, 0, 0, 0, 48, [27]),
  (42, .ldc2_w 358, 3, 0, 0, 0, 0, 57, [28]),
  (45, .invokestatic 121, 3, 138, 3, 6, 1, 0, [137]),
  (48, .ifCond .eq 48, 3, 96, 0, 0, 0, 0, []),
  (51, .iload 4, 2, 4, 0, 0, 0, 0, []),
  (53, .sipush 9999, 3, 0, 0, 0, 0, 9999, []),
  (56, .if_icmp .le 8, 3, 64, 0, 0, 0, 0, []),
  (59, .iload 4, 2, 4, 0, 0, 0, 0, []),
  (61, .goto 20, 3, 81, 0, 0, 0, 0, []),
  (64, .bipush 10, 2, 0, 0, 0, 0, 10, []),
  (66, .iload 4, 2, 4, 0, 0, 0, 0, []),
  (68, .imul, 1, 0, 0, 0, 0, 0, []),
  (69, .aload_n 0, 1, 0, 0, 0, 0, 0, []),
  (70, .aload_n 0, 1, 0, 0, 0, 0, 0, []),
  (71, .getfield 347, 3, 9, 36, 0, 0, 0, [171]),
  (74, .invokevirtual 350, 3, 198, 2, 2, 1, 9, [183]),
  (77, .iadd, 1, 0, 0, 0, 0, 0, []),
  (78, .bipush 48, 2, 0, 0, 0, 0, 48, []),
  (80, .isub, 1, 0, 0, 0, 0, 0, []),
  (81, .istore 4, 2, 4, 0, 0, 0, 0, []),
  (83, .aload_n 0, 1, 0, 0, 0, 0, 0, []),
  (84, .dup, 1, 0, 0, 0, 0, 0, []),
  (85, .getfield 347, 3, 9, 36, 0, 0, 0, [171]),
  (88, .iconst 1, 1, 0, 0, 0, 0, 1, []),
  (89, .iadd, 1, 0, 0, 0, 0, 0, []),
  (90, .putfield 347, 3, 9, 36, 0, 0, 0, [171]),
  (93, .goto (-63), 3, 30, 0, 0, 0, 0, []),
  (96, .aload_n 0, 1, 0, 0, 0, 0, 0, []),
  (97, .iload 4, 2, 4, 0, 0, 0, 0, []),
  (99, .putfield 372, 3, 9, 38, 0, 0, 0, [174]),
  (102, .iload 4, 2, 4, 0, 0, 0, 0, []),
  (104, .i2l, 1, 0, 0, 0, 0, 0, []),
  (105, .iload_n 1, 1, 1, 0, 0, 0, 0, []),
  (106, .i2l, 1, 0, 0, 0, 0, 0, []),
  (107, .iload_n 2, 1, 2, 0, 0, 0, 0, []),
  (108, .i2l, 1, 0, 0, 0, 0, 0, []),
  (109, .invokestatic 121, 3, 138, 3, 6, 1, 0, [137]),
  (112, .ifCond .ne 15, 3, 127, 0, 0, 0, 0, []),
  (115, .aload_n 0, 1, 0, 0, 0, 0, 0, []),
  (116, .iconst 2, 1, 0, 0, 0, 0, 2, []),
  (117, .aload_n 0, 1, 0, 0, 0, 0, 0, []),
  (118, .getfield 366, 3, 9, 39, 0, 0, 0, [173]),
  (121, .invokevirtual 369, 3, 201, 3, 3, 1, 9, [186]),
  (124, .ifCond .eq 7, 3, 131, 0, 0, 0, 0, []),
  (127, .iconst 1, 1, 0, 0, 0, 0, 1, []),
  (128, .goto 4, 3, 132, 0, 0, 0, 0, []),
  (131, .iconst 0, 1, 0, 0, 0, 0, 0, []),
  (132, .ireturn, 1, 1, 0, 0, 0, 0, [])]
abbrev kMo_readsSign : Nat := 203
def cMo_readsSign : List xE := [(0, .aload_n 0, 1, 0, 0, 0, 0, 0, []),
  (1, .invokevirtual 353, 3, 199, 1, 1, 1, 9, [184]),
  (4, .iload_n 1, 1, 1, 0, 0, 0, 0, []),
  (5, .if_icmp .eq 13, 3, 18, 0, 0, 0, 0, []),
  (8, .aload_n 0, 1, 0, 0, 0, 0, 0, []),
  (9, .iconst 1, 1, 0, 0, 0, 0, 1, []),
  (10, .aload_n 0, 1, 0, 0, 0, 0, 0, []),
  (11, .getfield 347, 3, 9, 36, 0, 0, 0, [171]),
  (14, .invokevirtual 369, 3, 201, 3, 3, 1, 9, [186]),
  (17, .ireturn, 1, 1, 0, 0, 0, 0, []),
  (18, .aload_n 0, 1, 0, 0, 0, 0, 0, []),
  (19, .dup, 1, 0, 0, 0, 0, 0, []),
  (20, .getfield 347, 3, 9, 36, 0, 0, 0, [171]),
  (23, .iconst 1, 1, 0, 0, 0, 0, 1, []),
  (24, .iadd, 1, 0, 0, 0, 0, 0, []),
  (25, .putfield 347, 3, 9, 36, 0, 0, 0, [171]),
  (28, .iconst 1, 1, 0, 0, 0, 0, 1, []),
  (29, .ireturn, 1, 1, 0, 0, 0, 0, [])]
abbrev kMo_isStridesWord : Nat := 204
def cMo_isStridesWord : List xE := [(0, .ldc_w 375, 3, 1, 0, 0, 0, 1, []),
  (3, .astore_n 1, 1, 1, 0, 0, 0, 0, []),
  (4, .aload_n 0, 1, 0, 0, 0, 0, 0, []),
  (5, .invokevirtual 353, 3, 199, 1, 1, 1, 9, [184]),
  (8, .istore_n 2, 1, 2, 0, 0, 0, 0, []),
  (9, .iconst 0, 1, 0, 0, 0, 0, 0, []),
  (10, .istore_n 3, 1, 3, 0, 0, 0, 0, []),
  (11, .iload_n 3, 1, 3, 0, 0, 0, 0, []),
  (12, .aload_n 1, 1, 1, 0, 0, 0, 0, []),
  (13, .invokevirtual 377, 3, 9001, 0, 0, 0, 0, []),
  (16, .if_icmp .ge 27, 3, 43, 0, 0, 0, 0, []),
  (19, .aload_n 0, 1, 0, 0, 0, 0, 0, []),
  (20, .aload_n 0, 1, 0, 0, 0, 0, 0, []),
  (21, .getfield 347, 3, 9, 36, 0, 0, 0, [171]),
  (24, .iload_n 3, 1, 3, 0, 0, 0, 0, []),
  (25, .iadd, 1, 0, 0, 0, 0, 0, []),
  (26, .invokevirtual 350, 3, 198, 2, 2, 1, 9, [183]),
  (29, .aload_n 1, 1, 1, 0, 0, 0, 0, []),
  (30, .iload_n 3, 1, 3, 0, 0, 0, 0, []),
  (31, .invokevirtual 382, 3, 9002, 0, 0, 0, 0, []),
  (34, .if_icmp .ne 9, 3, 43, 0, 0, 0, 0, []),
  (37, .iinc 3 1, 3, 3, 0, 0, 0, 1, []),
  (40, .goto (-29), 3, 11, 0, 0, 0, 0, []),
  (43, .iload_n 3, 1, 3, 0, 0, 0, 0, []),
  (44, .aload_n 1, 1, 1, 0, 0, 0, 0, []),
  (45, .invokevirtual 377, 3, 9001, 0, 0, 0, 0, []),
  (48, .if_icmp .ne 30, 3, 78, 0, 0, 0, 0, []),
  (51, .aload_n 0, 1, 0, 0, 0, 0, 0, []),
  (52, .aload_n 0, 1, 0, 0, 0, 0, 0, []),
  (53, .getfield 347, 3, 9, 36, 0, 0, 0, [171]),
  (56, .iload_n 3, 1, 3, 0, 0, 0, 0, []),
  (57, .iadd, 1, 0, 0, 0, 0, 0, []),
  (58, .invokevirtual 350, 3, 198, 2, 2, 1, 9, [183]),
  (61, .i2l, 1, 0, 0, 0, 0, 0, []),
  (62, .ldc2_w 386, 3, 0, 0, 0, 0, 97, [29]),
  (65, .ldc2_w 388, 3, 0, 0, 0, 0, 122, [30]),
  (68, .invokestatic 121, 3, 138, 3, 6, 1, 0, [137]),
  (71, .ifCond .ne 7, 3, 78, 0, 0, 0, 0, []),
  (74, .iconst 1, 1, 0, 0, 0, 0, 1, []),
  (75, .goto 4, 3, 79, 0, 0, 0, 0, []),
  (78, .iconst 0, 1, 0, 0, 0, 0, 0, []),
  (79, .ireturn, 1, 1, 0, 0, 0, 0, [])]
abbrev kMo_readsStrides : Nat := 205
def cMo_readsStrides : List xE := [(0, .aload_n 0, 1, 0, 0, 0, 0, 0, []),
  (1, .dup, 1, 0, 0, 0, 0, 0, []),
  (2, .getfield 347, 3, 9, 36, 0, 0, 0, [171]),
  (5, .bipush 7, 2, 0, 0, 0, 0, 7, []),
  (7, .iadd, 1, 0, 0, 0, 0, 0, []),
  (8, .putfield 347, 3, 9, 36, 0, 0, 0, [171]),
  (11, .aload_n 0, 1, 0, 0, 0, 0, 0, []),
  (12, .iconst 0, 1, 0, 0, 0, 0, 0, []),
  (13, .putfield 318, 3, 9, 32, 0, 0, 0, [169]),
  (16, .iconst 1, 1, 0, 0, 0, 0, 1, []),
  (17, .istore_n 1, 1, 1, 0, 0, 0, 0, []),
  (18, .iload_n 1, 1, 1, 0, 0, 0, 0, []),
  (19, .ifCond .eq 61, 3, 80, 0, 0, 0, 0, []),
  (22, .aload_n 0, 1, 0, 0, 0, 0, 0, []),
  (23, .iconst 2, 1, 0, 0, 0, 0, 2, []),
  (24, .bipush 6, 2, 0, 0, 0, 0, 6, []),
  (26, .invokevirtual 390, 3, 202, 3, 5, 1, 9, [187]),
  (29, .ifCond .ne 5, 3, 34, 0, 0, 0, 0, []),
  (32, .iconst 0, 1, 0, 0, 0, 0, 0, []),
  (33, .ireturn, 1, 1, 0, 0, 0, 0, []),
  (34, .aload_n 0, 1, 0, 0, 0, 0, 0, []),
  (35, .aload_n 0, 1, 0, 0, 0, 0, 0, []),
  (36, .getfield 372, 3, 9, 38, 0, 0, 0, [174]),
  (39, .invokevirtual 327, 3, 190, 2, 4, 1, 9, [178]),
  (42, .ifCond .ne 13, 3, 55, 0, 0, 0, 0, []),
  (45, .aload_n 0, 1, 0, 0, 0, 0, 0, []),
  (46, .iconst 2, 1, 0, 0, 0, 0, 2, []),
  (47, .aload_n 0, 1, 0, 0, 0, 0, 0, []),
  (48, .getfield 366, 3, 9, 39, 0, 0, 0, [173]),
  (51, .invokevirtual 369, 3, 201, 3, 3, 1, 9, [186]),
  (54, .ireturn, 1, 1, 0, 0, 0, 0, []),
  (55, .aload_n 0, 1, 0, 0, 0, 0, 0, []),
  (56, .invokevirtual 330, 3, 191, 1, 3, 1, 9, [179]),
  (59, .bipush 32, 2, 0, 0, 0, 0, 32, []),
  (61, .if_icmp .lt 10, 3, 71, 0, 0, 0, 0, []),
  (64, .aload_n 0, 1, 0, 0, 0, 0, 0, []),
  (65, .invokevirtual 363, 3, 200, 1, 1, 1, 9, [185]),
  (68, .ifCond .eq 7, 3, 75, 0, 0, 0, 0, []),
  (71, .iconst 1, 1, 0, 0, 0, 0, 1, []),
  (72, .goto 4, 3, 76, 0, 0, 0, 0, []),
  (75, .iconst 0, 1, 0, 0, 0, 0, 0, []),
  (76, .istore_n 1, 1, 1, 0, 0, 0, 0, []),
  (77, .goto (-59), 3, 18, 0, 0, 0, 0, []),
  (80, .iconst 1, 1, 0, 0, 0, 0, 1, []),
  (81, .ireturn, 1, 1, 0, 0, 0, 0, [])]
abbrev kMo_readsRule : Nat := 206
def cMo_readsRule : List xE := [(0, .lconst 0, 1, 0, 0, 0, 0, 0, []),
  (1, .lstore_n 1, 1, 1, 0, 0, 0, 0, []),
  (2, .iconst 0, 1, 0, 0, 0, 0, 0, []),
  (3, .istore_n 3, 1, 3, 0, 0, 0, 0, []),
  (4, .iload_n 3, 1, 3, 0, 0, 0, 0, []),
  (5, .iconst 4, 1, 0, 0, 0, 0, 4, []),
  (6, .if_icmp .ge 47, 3, 53, 0, 0, 0, 0, []),
  (9, .iload_n 3, 1, 3, 0, 0, 0, 0, []),
  (10, .ifCond .le 12, 3, 22, 0, 0, 0, 0, []),
  (13, .aload_n 0, 1, 0, 0, 0, 0, 0, []),
  (14, .bipush 46, 2, 0, 0, 0, 0, 46, []),
  (16, .invokevirtual 393, 3, 203, 2, 2, 1, 9, [188]),
  (19, .ifCond .eq 14, 3, 33, 0, 0, 0, 0, []),
  (22, .aload_n 0, 1, 0, 0, 0, 0, 0, []),
  (23, .iconst 0, 1, 0, 0, 0, 0, 0, []),
  (24, .sipush 255, 3, 0, 0, 0, 0, 255, []),
  (27, .invokevirtual 390, 3, 202, 3, 5, 1, 9, [187]),
  (30, .ifCond .ne 5, 3, 35, 0, 0, 0, 0, []),
  (33, .iconst 0, 1, 0, 0, 0, 0, 0, []),
  (34, .ireturn, 1, 1, 0, 0, 0, 0, []),
  (35, .ldc2_w 397, 3, 0, 0, 0, 0, 256, [31]),
  (38, .lload_n 1, 1, 1, 0, 0, 0, 0, []),
  (39, .lmul, 1, 0, 0, 0, 0, 0, []),
  (40, .aload_n 0, 1, 0, 0, 0, 0, 0, []),
  (41, .getfield 372, 3, 9, 38, 0, 0, 0, [174]),
  (44, .i2l, 1, 0, 0, 0, 0, 0, []),
  (45, .ladd, 1, 0, 0, 0, 0, 0, []),
  (46, .lstore_n 1, 1, 1, 0, 0, 0, 0, []),
  (47, .iinc 3 1, 3, 3, 0, 0, 0, 1, []),
  (50, .goto (-46), 3, 4, 0, 0, 0, 0, []),
  (53, .aload_n 0, 1, 0, 0, 0, 0, 0, []),
  (54, .bipush 47, 2, 0, 0, 0, 0, 47, []),
  (56, .invokevirtual 393, 3, 203, 2, 2, 1, 9, [188]),
  (59, .ifCond .eq 13, 3, 72, 0, 0, 0, 0, []),
  (62, .aload_n 0, 1, 0, 0, 0, 0, 0, []),
  (63, .iconst 0, 1, 0, 0, 0, 0, 0, []),
  (64, .bipush 32, 2, 0, 0, 0, 0, 32, []),
  (66, .invokevirtual 390, 3, 202, 3, 5, 1, 9, [187]),
  (69, .ifCond .ne 5, 3, 74, 0, 0, 0, 0, []),
  (72, .iconst 0, 1, 0, 0, 0, 0, 0, []),
  (73, .ireturn, 1, 1, 0, 0, 0, 0, []),
  (74, .aload_n 0, 1, 0, 0, 0, 0, 0, []),
  (75, .getfield 372, 3, 9, 38, 0, 0, 0, [174]),
  (78, .istore_n 3, 1, 3, 0, 0, 0, 0, []),
  (79, .lload_n 1, 1, 1, 0, 0, 0, 0, []),
  (80, .iload_n 3, 1, 3, 0, 0, 0, 0, []),
  (81, .invokestatic 129, 3, 141, 1, 1, 1, 0, [139]),
  (84, .lrem, 1, 0, 0, 0, 0, 0, []),
  (85, .lconst 0, 1, 0, 0, 0, 0, 0, []),
  (86, .lcmp, 4, 100, 0, 0, 0, 0, []),
  (90, .aload_n 0, 1, 0, 0, 0, 0, 0, []),
  (91, .iconst 3, 1, 0, 0, 0, 0, 3, []),
  (92, .aload_n 0, 1, 0, 0, 0, 0, 0, []),
  (93, .getfield 366, 3, 9, 39, 0, 0, 0, [173]),
  (96, .invokevirtual 369, 3, 201, 3, 3, 1, 9, [186]),
  (99, .ireturn, 1, 1, 0, 0, 0, 0, []),
  (100, .aload_n 0, 1, 0, 0, 0, 0, 0, []),
  (101, .bipush 61, 2, 0, 0, 0, 0, 61, []),
  (103, .invokevirtual 393, 3, 203, 2, 2, 1, 9, [188]),
  (106, .ifCond .eq 13, 3, 119, 0, 0, 0, 0, []),
  (109, .aload_n 0, 1, 0, 0, 0, 0, 0, []),
  (110, .iconst 0, 1, 0, 0, 0, 0, 0, []),
  (111, .bipush 99, 2, 0, 0, 0, 0, 99, []),
  (113, .invokevirtual 390, 3, 202, 3, 5, 1, 9, [187]),
  (116, .ifCond .ne 5, 3, 121, 0, 0, 0, 0, []),
  (119, .iconst 0, 1, 0, 0, 0, 0, 0, []),
  (120, .ireturn, 1, 1, 0, 0, 0, 0, []),
  (121, .aload_n 0, 1, 0, 0, 0, 0, 0, []),
  (122, .getfield 372, 3, 9, 38, 0, 0, 0, [174]),
  (125, .istore 4, 2, 4, 0, 0, 0, 0, []),
  (127, .aload_n 0, 1, 0, 0, 0, 0, 0, []),
  (128, .iconst 0, 1, 0, 0, 0, 0, 0, []),
  (129, .bipush 9, 2, 0, 0, 0, 0, 9, []),
  (131, .invokevirtual 390, 3, 202, 3, 5, 1, 9, [187]),
  (134, .ifCond .ne 5, 3, 139, 0, 0, 0, 0, []),
  (137, .iconst 0, 1, 0, 0, 0, 0, 0, []),
  (138, .ireturn, 1, 1, 0, 0, 0, 0, []),
  (139, .aload_n 0, 1, 0, 0, 0, 0, 0, []),
  (140, .getfield 79, 3, 9, 41, 4, 64, 23, [147]),
  (143, .aload_n 0, 1, 0, 0, 0, 0, 0, []),
  (144, .getfield 399, 3, 9, 40, 0, 0, 0, [175]),
  (147, .lload_n 1, 1, 1, 0, 0, 0, 0, []),
  (148, .lastore, 1, 0, 0, 0, 0, 0, []),
  (149, .aload_n 0, 1, 0, 0, 0, 0, 0, []),
  (150, .getfield 82, 3, 9, 42, 3, 64, 24, [148]),
  (153, .aload_n 0, 1, 0, 0, 0, 0, 0, []),
  (154, .getfield 399, 3, 9, 40, 0, 0, 0, [175]),
  (157, .iload_n 3, 1, 3, 0, 0, 0, 0, []),
  (158, .iastore, 1, 0, 0, 0, 0, 0, []),
  (159, .aload_n 0, 1, 0, 0, 0, 0, 0, []),
  (160, .getfield 85, 3, 9, 43, 3, 64, 25, [149]),
  (163, .aload_n 0, 1, 0, 0, 0, 0, 0, []),
  (164, .getfield 399, 3, 9, 40, 0, 0, 0, [175]),
  (167, .bipush 10, 2, 0, 0, 0, 0, 10, []),
  (169, .iload 4, 2, 4, 0, 0, 0, 0, []),
  (171, .imul, 1, 0, 0, 0, 0, 0, []),
  (172, .aload_n 0, 1, 0, 0, 0, 0, 0, []),
  (173, .getfield 372, 3, 9, 38, 0, 0, 0, [174]),
  (176, .iadd, 1, 0, 0, 0, 0, 0, []),
  (177, .iastore, 1, 0, 0, 0, 0, 0, []),
  (178, .aload_n 0, 1, 0, 0, 0, 0, 0, []),
  (179, .dup, 1, 0, 0, 0, 0, 0, []),
  (180, .getfield 399, 3, 9, 40, 0, 0, 0, [175]),
  (183, .iconst 1, 1, 0, 0, 0, 0, 1, []),
  (184, .iadd, 1, 0, 0, 0, 0, 0, []),
  (185, .putfield 399, 3, 9, 40, 0, 0, 0, [175]),
  (188, .iconst 1, 1, 0, 0, 0, 0, 1, []),
  (189, .ireturn, 1, 1, 0, 0, 0, 0, [])]
abbrev kMo_readsText : Nat := 207
def cMo_readsText : List xE := [(0, .aload_n 0, 1, 0, 0, 0, 0, 0, []),
  (1, .iconst 0, 1, 0, 0, 0, 0, 0, []),
  (2, .putfield 347, 3, 9, 36, 0, 0, 0, [171]),
  (5, .aload_n 0, 1, 0, 0, 0, 0, 0, []),
  (6, .iconst 0, 1, 0, 0, 0, 0, 0, []),
  (7, .putfield 399, 3, 9, 40, 0, 0, 0, [175]),
  (10, .aload_n 0, 1, 0, 0, 0, 0, 0, []),
  (11, .iconst 0, 1, 0, 0, 0, 0, 0, []),
  (12, .putfield 318, 3, 9, 32, 0, 0, 0, [169]),
  (15, .iconst 1, 1, 0, 0, 0, 0, 1, []),
  (16, .istore_n 1, 1, 1, 0, 0, 0, 0, []),
  (17, .iload_n 1, 1, 1, 0, 0, 0, 0, []),
  (18, .ifCond .eq 60, 3, 78, 0, 0, 0, 0, []),
  (21, .aload_n 0, 1, 0, 0, 0, 0, 0, []),
  (22, .invokevirtual 402, 3, 204, 1, 4, 1, 9, [189]),
  (25, .ifCond .eq 10, 3, 35, 0, 0, 0, 0, []),
  (28, .aload_n 0, 1, 0, 0, 0, 0, 0, []),
  (29, .invokevirtual 405, 3, 205, 1, 2, 1, 9, [190]),
  (32, .goto 7, 3, 39, 0, 0, 0, 0, []),
  (35, .aload_n 0, 1, 0, 0, 0, 0, 0, []),
  (36, .invokevirtual 408, 3, 206, 1, 5, 1, 9, [191]),
  (39, .istore_n 2, 1, 2, 0, 0, 0, 0, []),
  (40, .iload_n 2, 1, 2, 0, 0, 0, 0, []),
  (41, .ifCond .ne 5, 3, 46, 0, 0, 0, 0, []),
  (44, .iconst 0, 1, 0, 0, 0, 0, 0, []),
  (45, .ireturn, 1, 1, 0, 0, 0, 0, []),
  (46, .aload_n 0, 1, 0, 0, 0, 0, 0, []),
  (47, .invokevirtual 353, 3, 199, 1, 1, 1, 9, [184]),
  (50, .bipush 59, 2, 0, 0, 0, 0, 59, []),
  (52, .if_icmp .ne 7, 3, 59, 0, 0, 0, 0, []),
  (55, .iconst 1, 1, 0, 0, 0, 0, 1, []),
  (56, .goto 4, 3, 60, 0, 0, 0, 0, []),
  (59, .iconst 0, 1, 0, 0, 0, 0, 0, []),
  (60, .istore_n 1, 1, 1, 0, 0, 0, 0, []),
  (61, .iload_n 1, 1, 1, 0, 0, 0, 0, []),
  (62, .ifCond .eq 13, 3, 75, 0, 0, 0, 0, []),
  (65, .aload_n 0, 1, 0, 0, 0, 0, 0, []),
  (66, .dup, 1, 0, 0, 0, 0, 0, []),
  (67, .getfield 347, 3, 9, 36, 0, 0, 0, [171]),
  (70, .iconst 1, 1, 0, 0, 0, 0, 1, []),
  (71, .iadd, 1, 0, 0, 0, 0, 0, []),
  (72, .putfield 347, 3, 9, 36, 0, 0, 0, [171]),
  (75, .goto (-58), 3, 17, 0, 0, 0, 0, []),
  (78, .aload_n 0, 1, 0, 0, 0, 0, 0, []),
  (79, .invokevirtual 353, 3, 199, 1, 1, 1, 9, [184]),
  (82, .iconst (-1), 1, 0, 0, 0, 0, (-1), []),
  (83, .if_icmp .eq 15, 3, 98, 0, 0, 0, 0, []),
  (86, .aload_n 0, 1, 0, 0, 0, 0, 0, []),
  (87, .iconst 1, 1, 0, 0, 0, 0, 1, []),
  (88, .aload_n 0, 1, 0, 0, 0, 0, 0, []),
  (89, .getfield 347, 3, 9, 36, 0, 0, 0, [171]),
  (92, .invokevirtual 369, 3, 201, 3, 3, 1, 9, [186]),
  (95, .ifCond .eq 7, 3, 102, 0, 0, 0, 0, []),
  (98, .iconst 1, 1, 0, 0, 0, 0, 1, []),
  (99, .goto 4, 3, 103, 0, 0, 0, 0, []),
  (102, .iconst 0, 1, 0, 0, 0, 0, 0, []),
  (103, .ireturn, 1, 1, 0, 0, 0, 0, [])]
abbrev kMo_tell : Nat := 208
def cMo_tell : List xE := [(0, .aload_n 0, 1, 0, 0, 0, 0, 0, []),
  (1, .invokevirtual 411, 3, 207, 1, 3, 1, 9, [192]),
  (4, .istore_n 1, 1, 1, 0, 0, 0, 0, []),
  (5, .aload_n 0, 1, 0, 0, 0, 0, 0, []),
  (6, .iconst 0, 1, 0, 0, 0, 0, 0, []),
  (7, .putfield 344, 3, 9, 35, 0, 0, 0, [170]),
  (10, .iload_n 1, 1, 1, 0, 0, 0, 0, []),
  (11, .ifCond .ne 11, 3, 22, 0, 0, 0, 0, []),
  (14, .bipush (-2), 2, 0, 0, 0, 0, (-2), []),
  (16, .aload_n 0, 1, 0, 0, 0, 0, 0, []),
  (17, .getfield 360, 3, 9, 37, 0, 0, 0, [172]),
  (20, .isub, 1, 0, 0, 0, 0, 0, []),
  (21, .ireturn, 1, 0, 0, 0, 0, 0, []),
  (22, .aload_n 0, 1, 0, 0, 0, 0, 0, []),
  (23, .invokevirtual 110, 3, 139, 1, 2, 0, 9, [135]),
  (26, .aload_n 0, 1, 0, 0, 0, 0, 0, []),
  (27, .getfield 318, 3, 9, 32, 0, 0, 0, [169]),
  (30, .ifCond .le 7, 3, 37, 0, 0, 0, 0, []),
  (33, .aload_n 0, 1, 0, 0, 0, 0, 0, []),
  (34, .invokevirtual 341, 3, 192, 1, 2, 0, 9, [182]),
  (37, .iconst 0, 1, 0, 0, 0, 0, 0, []),
  (38, .istore_n 2, 1, 2, 0, 0, 0, 0, []),
  (39, .iload_n 2, 1, 2, 0, 0, 0, 0, []),
  (40, .aload_n 0, 1, 0, 0, 0, 0, 0, []),
  (41, .getfield 399, 3, 9, 40, 0, 0, 0, [175]),
  (44, .if_icmp .ge 32, 3, 76, 0, 0, 0, 0, []),
  (47, .aload_n 0, 1, 0, 0, 0, 0, 0, []),
  (48, .aload_n 0, 1, 0, 0, 0, 0, 0, []),
  (49, .getfield 79, 3, 9, 41, 4, 64, 23, [147]),
  (52, .iload_n 2, 1, 2, 0, 0, 0, 0, []),
  (53, .laload, 1, 0, 0, 0, 0, 0, []),
  (54, .aload_n 0, 1, 0, 0, 0, 0, 0, []),
  (55, .getfield 82, 3, 9, 42, 3, 64, 24, [148]),
  (58, .iload_n 2, 1, 2, 0, 0, 0, 0, []),
  (59, .iaload, 1, 0, 0, 0, 0, 0, []),
  (60, .aload_n 0, 1, 0, 0, 0, 0, 0, []),
  (61, .getfield 85, 3, 9, 43, 3, 64, 25, [149]),
  (64, .iload_n 2, 1, 2, 0, 0, 0, 0, []),
  (65, .iaload, 1, 0, 0, 0, 0, 0, []),
  (66, .invokevirtual 300, 3, 152, 4, 7, 1, 9, [174]),
  (69, .istore_n 3, 1, 3, 0, 0, 0, 0, []),
  (70, .iinc 2 1, 3, 2, 0, 0, 0, 1, []),
  (73, .goto (-34), 3, 39, 0, 0, 0, 0, []),
  (76, .aload_n 0, 1, 0, 0, 0, 0, 0, []),
  (77, .iconst 0, 1, 0, 0, 0, 0, 0, []),
  (78, .putfield 266, 3, 9, 2, 0, 0, 0, [166]),
  (81, .aload_n 0, 1, 0, 0, 0, 0, 0, []),
  (82, .invokevirtual 279, 3, 178, 1, 1, 0, 9, [168]),
  (85, .aload_n 0, 1, 0, 0, 0, 0, 0, []),
  (86, .getfield 7, 3, 9, 0, 3, 259, 1, [125]),
  (89, .iconst 0, 1, 0, 0, 0, 0, 0, []),
  (90, .iaload, 1, 0, 0, 0, 0, 0, []),
  (91, .ireturn, 1, 0, 0, 0, 0, 0, [])]
abbrev kMo_hopAt : Nat := 209
def cMo_hopAt : List xE := [(0, .aload_n 0, 1, 0, 0, 0, 0, 0, []),
  (1, .iconst 0, 1, 0, 0, 0, 0, 0, []),
  (2, .lload_n 1, 1, 1, 0, 0, 0, 0, []),
  (3, .invokevirtual 240, 3, 164, 3, 4, 1, 9, [162]),
  (6, .istore_n 3, 1, 3, 0, 0, 0, 0, []),
  (7, .iload_n 3, 1, 3, 0, 0, 0, 0, []),
  (8, .iconst (-1), 1, 0, 0, 0, 0, (-1), []),
  (9, .if_icmp .ne 7, 3, 16, 0, 0, 0, 0, []),
  (12, .iconst (-1), 1, 0, 0, 0, 0, (-1), []),
  (13, .goto 8, 3, 21, 0, 0, 0, 0, []),
  (16, .aload_n 0, 1, 0, 0, 0, 0, 0, []),
  (17, .iload_n 3, 1, 3, 0, 0, 0, 0, []),
  (18, .invokevirtual 139, 3, 147, 2, 3, 1, 9, [141]),
  (21, .ireturn, 1, 0, 0, 0, 0, 0, [])]
abbrev kMo_through : Nat := 210
def cMo_through : List xE := [(0, .iconst 0, 1, 0, 0, 0, 0, 0, []),
  (1, .istore_n 3, 1, 3, 0, 0, 0, 0, []),
  (2, .aload_n 0, 1, 0, 0, 0, 0, 0, []),
  (3, .iload_n 3, 1, 3, 0, 0, 0, 0, []),
  (4, .lload_n 1, 1, 1, 0, 0, 0, 0, []),
  (5, .invokevirtual 414, 3, 211, 3, 6, 1, 9, [193]),
  (8, .ifCond .eq 9, 3, 17, 0, 0, 0, 0, []),
  (11, .iinc 3 1, 3, 3, 0, 0, 0, 1, []),
  (14, .goto (-12), 3, 2, 0, 0, 0, 0, []),
  (17, .iload_n 3, 1, 3, 0, 0, 0, 0, []),
  (18, .iconst 1, 1, 0, 0, 0, 0, 1, []),
  (19, .iadd, 1, 0, 0, 0, 0, 0, []),
  (20, .ireturn, 1, 0, 0, 0, 0, 0, [])]
abbrev kMo_hasChild : Nat := 211
def cMo_hasChild : List xE := [(0, .iload_n 1, 1, 1, 0, 0, 0, 0, []),
  (1, .iconst 1, 1, 0, 0, 0, 0, 1, []),
  (2, .iadd, 1, 0, 0, 0, 0, 0, []),
  (3, .aload_n 0, 1, 0, 0, 0, 0, 0, []),
  (4, .getfield 33, 3, 9, 9, 3, 2, 8, [132]),
  (7, .iconst 0, 1, 0, 0, 0, 0, 0, []),
  (8, .iaload, 1, 0, 0, 0, 0, 0, []),
  (9, .if_icmp .lt 5, 3, 14, 0, 0, 0, 0, []),
  (12, .iconst 0, 1, 0, 0, 0, 0, 0, []),
  (13, .ireturn, 1, 1, 0, 0, 0, 0, []),
  (14, .aload_n 0, 1, 0, 0, 0, 0, 0, []),
  (15, .iconst 0, 1, 0, 0, 0, 0, 0, []),
  (16, .iload_n 1, 1, 1, 0, 0, 0, 0, []),
  (17, .iconst 1, 1, 0, 0, 0, 0, 1, []),
  (18, .iadd, 1, 0, 0, 0, 0, 0, []),
  (19, .invokevirtual 216, 3, 165, 3, 3, 1, 9, [158]),
  (22, .invokestatic 129, 3, 141, 1, 1, 1, 0, [139]),
  (25, .lstore 4, 2, 4, 0, 0, 0, 0, []),
  (27, .aload_n 0, 1, 0, 0, 0, 0, 0, []),
  (28, .iconst 0, 1, 0, 0, 0, 0, 0, []),
  (29, .lload_n 2, 1, 2, 0, 0, 0, 0, []),
  (30, .lload_n 2, 1, 2, 0, 0, 0, 0, []),
  (31, .lload 4, 2, 4, 0, 0, 0, 0, []),
  (33, .lrem, 1, 0, 0, 0, 0, 0, []),
  (34, .lsub, 1, 0, 0, 0, 0, 0, []),
  (35, .lload 4, 2, 4, 0, 0, 0, 0, []),
  (37, .invokevirtual 220, 3, 163, 4, 6, 1, 9, [159]),
  (40, .ifCond .ne 7, 3, 47, 0, 0, 0, 0, []),
  (43, .iconst 1, 1, 0, 0, 0, 0, 1, []),
  (44, .goto 4, 3, 48, 0, 0, 0, 0, []),
  (47, .iconst 0, 1, 0, 0, 0, 0, 0, []),
  (48, .ireturn, 1, 1, 0, 0, 0, 0, [])]
abbrev kMo_storedPlace : Nat := 212
def cMo_storedPlace : List xE := [(0, .aload_n 0, 1, 0, 0, 0, 0, 0, []),
  (1, .lload_n 1, 1, 1, 0, 0, 0, 0, []),
  (2, .invokevirtual 417, 3, 210, 2, 4, 1, 9, [194]),
  (5, .iconst 1, 1, 0, 0, 0, 0, 1, []),
  (6, .isub, 1, 0, 0, 0, 0, 0, []),
  (7, .istore_n 3, 1, 3, 0, 0, 0, 0, []),
  (8, .lload_n 1, 1, 1, 0, 0, 0, 0, []),
  (9, .lload_n 1, 1, 1, 0, 0, 0, 0, []),
  (10, .aload_n 0, 1, 0, 0, 0, 0, 0, []),
  (11, .iconst 0, 1, 0, 0, 0, 0, 0, []),
  (12, .iload_n 3, 1, 3, 0, 0, 0, 0, []),
  (13, .invokevirtual 216, 3, 165, 3, 3, 1, 9, [158]),
  (16, .invokestatic 129, 3, 141, 1, 1, 1, 0, [139]),
  (19, .lrem, 1, 0, 0, 0, 0, 0, []),
  (20, .lsub, 1, 0, 0, 0, 0, 0, []),
  (21, .lstore 4, 2, 4, 0, 0, 0, 0, []),
  (23, .aload_n 0, 1, 0, 0, 0, 0, 0, []),
  (24, .iconst 0, 1, 0, 0, 0, 0, 0, []),
  (25, .iload_n 3, 1, 3, 0, 0, 0, 0, []),
  (26, .lload 4, 2, 4, 0, 0, 0, 0, []),
  (28, .invokevirtual 243, 3, 172, 4, 11, 0, 9, [163]),
  (31, .iconst (-1), 1, 0, 0, 0, 0, (-1), []),
  (32, .istore 6, 2, 6, 0, 0, 0, 0, []),
  (34, .iconst 0, 1, 0, 0, 0, 0, 0, []),
  (35, .istore 7, 2, 7, 0, 0, 0, 0, []),
  (37, .iload 7, 2, 7, 0, 0, 0, 0, []),
  (39, .i2l, 1, 0, 0, 0, 0, 0, []),
  (40, .lload_n 1, 1, 1, 0, 0, 0, 0, []),
  (41, .lload 4, 2, 4, 0, 0, 0, 0, []),
  (43, .lsub, 1, 0, 0, 0, 0, 0, []),
  (44, .aload_n 0, 1, 0, 0, 0, 0, 0, []),
  (45, .iconst 0, 1, 0, 0, 0, 0, 0, []),
  (46, .iload_n 3, 1, 3, 0, 0, 0, 0, []),
  (47, .invokevirtual 234, 3, 171, 3, 3, 1, 9, [160]),
  (50, .ldiv, 1, 0, 0, 0, 0, 0, []),
  (51, .lcmp, 4, 76, 4, 0, 0, 0, []),
  (55, .iload 6, 2, 6, 0, 0, 0, 0, []),
  (57, .aload_n 0, 1, 0, 0, 0, 0, 0, []),
  (58, .getfield 228, 3, 9, 21, 1, 0, 0, [161]),
  (61, .iload 7, 2, 7, 0, 0, 0, 0, []),
  (63, .lshr, 1, 0, 0, 0, 0, 0, []),
  (64, .lconst 1, 1, 0, 0, 0, 0, 1, []),
  (65, .land, 1, 0, 0, 0, 0, 0, []),
  (66, .l2i, 1, 0, 0, 0, 0, 0, []),
  (67, .iadd, 1, 0, 0, 0, 0, 0, []),
  (68, .istore 6, 2, 6, 0, 0, 0, 0, []),
  (70, .iinc 7 1, 3, 7, 0, 0, 0, 1, []),
  (73, .goto (-36), 3, 37, 0, 0, 0, 0, []),
  (76, .iload 6, 2, 6, 0, 0, 0, 0, []),
  (78, .ireturn, 1, 0, 0, 0, 0, 0, [])]
abbrev kMo_hopWithout : Nat := 213
def cMo_hopWithout : List xE := [(0, .aload_n 0, 1, 0, 0, 0, 0, 0, []),
  (1, .getfield 7, 3, 9, 0, 3, 259, 1, [125]),
  (4, .iconst 0, 1, 0, 0, 0, 0, 0, []),
  (5, .lload_n 1, 1, 1, 0, 0, 0, 0, []),
  (6, .iconst (-1), 1, 0, 0, 0, 0, (-1), []),
  (7, .invokestatic 182, 3, 157, 4, 7, 1, 0, [151]),
  (10, .istore_n 3, 1, 3, 0, 0, 0, 0, []),
  (11, .iload_n 3, 1, 3, 0, 0, 0, 0, []),
  (12, .iconst (-1), 1, 0, 0, 0, 0, (-1), []),
  (13, .if_icmp .ne 5, 3, 18, 0, 0, 0, 0, []),
  (16, .iconst (-1), 1, 0, 0, 0, 0, (-1), []),
  (17, .ireturn, 1, 0, 0, 0, 0, 0, []),
  (18, .aload_n 0, 1, 0, 0, 0, 0, 0, []),
  (19, .getfield 7, 3, 9, 0, 3, 259, 1, [125]),
  (22, .iconst 0, 1, 0, 0, 0, 0, 0, []),
  (23, .lload_n 1, 1, 1, 0, 0, 0, 0, []),
  (24, .iload_n 3, 1, 3, 0, 0, 0, 0, []),
  (25, .invokestatic 182, 3, 157, 4, 7, 1, 0, [151]),
  (28, .istore 4, 2, 4, 0, 0, 0, 0, []),
  (30, .iload 4, 2, 4, 0, 0, 0, 0, []),
  (32, .iconst (-1), 1, 0, 0, 0, 0, (-1), []),
  (33, .if_icmp .ne 7, 3, 40, 0, 0, 0, 0, []),
  (36, .iconst (-1), 1, 0, 0, 0, 0, (-1), []),
  (37, .goto 13, 3, 50, 0, 0, 0, 0, []),
  (40, .aload_n 0, 1, 0, 0, 0, 0, 0, []),
  (41, .getfield 7, 3, 9, 0, 3, 259, 1, [125]),
  (44, .bipush 122, 2, 0, 0, 0, 0, 122, []),
  (46, .iload 4, 2, 4, 0, 0, 0, 0, []),
  (48, .iadd, 1, 0, 0, 0, 0, 0, []),
  (49, .iaload, 1, 0, 0, 0, 0, 0, []),
  (50, .ireturn, 1, 0, 0, 0, 0, 0, [])]
abbrev kMo_look : Nat := 214
def cMo_look : List xE := [(0, .iload_n 1, 1, 1, 0, 0, 0, 0, []),
  (1, .invokestatic 125, 3, 140, 1, 1, 1, 0, [138]),
  (4, .lstore_n 3, 1, 3, 0, 0, 0, 0, []),
  (5, .iload_n 2, 1, 2, 0, 0, 0, 0, []),
  (6, .tableswitch 69 0 4 #[34, 40, 51, 57, 63], 34, 75, 0, 0, 0, 0, [40, 46, 57, 63, 69]),
  (40, .aload_n 0, 1, 0, 0, 0, 0, 0, []),
  (41, .lload_n 3, 1, 3, 0, 0, 0, 0, []),
  (42, .invokevirtual 421, 3, 209, 2, 4, 1, 9, [195]),
  (45, .ireturn, 1, 0, 0, 0, 0, 0, []),
  (46, .aload_n 0, 1, 0, 0, 0, 0, 0, []),
  (47, .getfield 7, 3, 9, 0, 3, 259, 1, [125]),
  (50, .iconst 0, 1, 0, 0, 0, 0, 0, []),
  (51, .lload_n 3, 1, 3, 0, 0, 0, 0, []),
  (52, .iconst (-1), 1, 0, 0, 0, 0, (-1), []),
  (53, .invokestatic 182, 3, 157, 4, 7, 1, 0, [151]),
  (56, .ireturn, 1, 0, 0, 0, 0, 0, []),
  (57, .aload_n 0, 1, 0, 0, 0, 0, 0, []),
  (58, .lload_n 3, 1, 3, 0, 0, 0, 0, []),
  (59, .invokevirtual 417, 3, 210, 2, 4, 1, 9, [194]),
  (62, .ireturn, 1, 0, 0, 0, 0, 0, []),
  (63, .aload_n 0, 1, 0, 0, 0, 0, 0, []),
  (64, .lload_n 3, 1, 3, 0, 0, 0, 0, []),
  (65, .invokevirtual 424, 3, 212, 2, 8, 1, 9, [196]),
  (68, .ireturn, 1, 0, 0, 0, 0, 0, []),
  (69, .aload_n 0, 1, 0, 0, 0, 0, 0, []),
  (70, .lload_n 3, 1, 3, 0, 0, 0, 0, []),
  (71, .invokevirtual 427, 3, 213, 2, 5, 1, 9, [197]),
  (74, .ireturn, 1, 0, 0, 0, 0, 0, []),
  (75, .iconst (-1), 1, 0, 0, 0, 0, (-1), []),
  (76, .ireturn, 1, 0, 0, 0, 0, 0, [])]
abbrev kMo_path : Nat := 215
def cMo_path : List xE := [(0, .iload_n 2, 1, 2, 0, 0, 0, 0, []),
  (1, .ifCond .ge 5, 3, 6, 0, 0, 0, 0, []),
  (4, .iconst (-1), 1, 0, 0, 0, 0, (-1), []),
  (5, .ireturn, 1, 0, 0, 0, 0, 0, []),
  (6, .iload_n 2, 1, 2, 0, 0, 0, 0, []),
  (7, .aload_n 0, 1, 0, 0, 0, 0, 0, []),
  (8, .iload_n 1, 1, 1, 0, 0, 0, 0, []),
  (9, .invokestatic 125, 3, 140, 1, 1, 1, 0, [138]),
  (12, .invokevirtual 417, 3, 210, 2, 4, 1, 9, [194]),
  (15, .if_icmp .ge 15, 3, 30, 0, 0, 0, 0, []),
  (18, .aload_n 0, 1, 0, 0, 0, 0, 0, []),
  (19, .iload_n 2, 1, 2, 0, 0, 0, 0, []),
  (20, .iload_n 1, 1, 1, 0, 0, 0, 0, []),
  (21, .invokestatic 125, 3, 140, 1, 1, 1, 0, [138]),
  (24, .invokevirtual 430, 3, 169, 3, 9, 1, 9, [198]),
  (27, .goto 5, 3, 32, 0, 0, 0, 0, []),
  (30, .bipush (-2), 2, 0, 0, 0, 0, (-2), []),
  (32, .ireturn, 1, 0, 0, 0, 0, 0, [])]
abbrev kMo_within : Nat := 216
def cMo_within : List xE := [(0, .iload_n 1, 1, 1, 0, 0, 0, 0, []),
  (1, .iload_n 2, 1, 2, 0, 0, 0, 0, []),
  (2, .invokestatic 286, 3, 142, 2, 2, 1, 0, [170]),
  (5, .ifCond .eq 8, 3, 13, 0, 0, 0, 0, []),
  (8, .iload_n 3, 1, 3, 0, 0, 0, 0, []),
  (9, .iconst (-1), 1, 0, 0, 0, 0, (-1), []),
  (10, .if_icmp .ge 5, 3, 15, 0, 0, 0, 0, []),
  (13, .iconst (-1), 1, 0, 0, 0, 0, (-1), []),
  (14, .ireturn, 1, 0, 0, 0, 0, 0, []),
  (15, .iconst 0, 1, 0, 0, 0, 0, 0, []),
  (16, .istore 4, 2, 4, 0, 0, 0, 0, []),
  (18, .iconst 0, 1, 0, 0, 0, 0, 0, []),
  (19, .istore 5, 2, 5, 0, 0, 0, 0, []),
  (21, .iload 5, 2, 5, 0, 0, 0, 0, []),
  (23, .aload_n 0, 1, 0, 0, 0, 0, 0, []),
  (24, .getfield 7, 3, 9, 0, 3, 259, 1, [125]),
  (27, .iconst 0, 1, 0, 0, 0, 0, 0, []),
  (28, .iaload, 1, 0, 0, 0, 0, 0, []),
  (29, .if_icmp .ge 65, 3, 94, 0, 0, 0, 0, []),
  (32, .aload_n 0, 1, 0, 0, 0, 0, 0, []),
  (33, .getfield 7, 3, 9, 0, 3, 259, 1, [125]),
  (36, .bipush 62, 2, 0, 0, 0, 0, 62, []),
  (38, .iload 5, 2, 5, 0, 0, 0, 0, []),
  (40, .iadd, 1, 0, 0, 0, 0, 0, []),
  (41, .iaload, 1, 0, 0, 0, 0, 0, []),
  (42, .iload_n 2, 1, 2, 0, 0, 0, 0, []),
  (43, .if_icmp .lt 45, 3, 88, 0, 0, 0, 0, []),
  (46, .aload_n 0, 1, 0, 0, 0, 0, 0, []),
  (47, .iload 5, 2, 5, 0, 0, 0, 0, []),
  (49, .invokevirtual 136, 3, 144, 2, 2, 1, 9, [140]),
  (52, .iload_n 1, 1, 1, 0, 0, 0, 0, []),
  (53, .invokestatic 125, 3, 140, 1, 1, 1, 0, [138]),
  (56, .iload_n 1, 1, 1, 0, 0, 0, 0, []),
  (57, .invokestatic 125, 3, 140, 1, 1, 1, 0, [138]),
  (60, .iload_n 2, 1, 2, 0, 0, 0, 0, []),
  (61, .invokestatic 129, 3, 141, 1, 1, 1, 0, [139]),
  (64, .ladd, 1, 0, 0, 0, 0, 0, []),
  (65, .lconst 1, 1, 0, 0, 0, 0, 1, []),
  (66, .lsub, 1, 0, 0, 0, 0, 0, []),
  (67, .invokestatic 121, 3, 138, 3, 6, 1, 0, [137]),
  (70, .ifCond .ne 6, 3, 76, 0, 0, 0, 0, []),
  (73, .goto 15, 3, 88, 0, 0, 0, 0, []),
  (76, .iload 4, 2, 4, 0, 0, 0, 0, []),
  (78, .iload_n 3, 1, 3, 0, 0, 0, 0, []),
  (79, .if_icmp .ne 6, 3, 85, 0, 0, 0, 0, []),
  (82, .iload 5, 2, 5, 0, 0, 0, 0, []),
  (84, .ireturn, 1, 0, 0, 0, 0, 0, []),
  (85, .iinc 4 1, 3, 4, 0, 0, 0, 1, []),
  (88, .iinc 5 1, 3, 5, 0, 0, 0, 1, []),
  (91, .goto (-70), 3, 21, 0, 0, 0, 0, []),
  (94, .iload_n 3, 1, 3, 0, 0, 0, 0, []),
  (95, .iconst (-1), 1, 0, 0, 0, 0, (-1), []),
  (96, .if_icmp .ne 8, 3, 104, 0, 0, 0, 0, []),
  (99, .iload 4, 2, 4, 0, 0, 0, 0, []),
  (101, .goto 5, 3, 106, 0, 0, 0, 0, []),
  (104, .bipush (-2), 2, 0, 0, 0, 0, (-2), []),
  (106, .ireturn, 1, 0, 0, 0, 0, 0, [])]
abbrev kMo_differs : Nat := 217
def cMo_differs : List xE := [(0, .iload_n 1, 1, 1, 0, 0, 0, 0, []),
  (1, .invokestatic 282, 3, 180, 1, 1, 1, 0, [169]),
  (4, .ifCond .eq 22, 3, 26, 0, 0, 0, 0, []),
  (7, .aload_n 0, 1, 0, 0, 0, 0, 0, []),
  (8, .getfield 19, 3, 9, 4, 5, 2, 4, [128]),
  (11, .iload_n 1, 1, 1, 0, 0, 0, 0, []),
  (12, .baload, 1, 0, 0, 0, 0, 0, []),
  (13, .ifCond .eq 13, 3, 26, 0, 0, 0, 0, []),
  (16, .iload_n 2, 1, 2, 0, 0, 0, 0, []),
  (17, .i2l, 1, 0, 0, 0, 0, 0, []),
  (18, .lconst 0, 1, 0, 0, 0, 0, 0, []),
  (19, .lconst 1, 1, 0, 0, 0, 0, 1, []),
  (20, .invokestatic 121, 3, 138, 3, 6, 1, 0, [137]),
  (23, .ifCond .ne 7, 3, 30, 0, 0, 0, 0, []),
  (26, .ldc2_w 264, 3, 0, 0, 0, 0, (-1), [22]),
  (29, .lreturn, 1, 0, 0, 0, 0, 0, []),
  (30, .aload_n 0, 1, 0, 0, 0, 0, 0, []),
  (31, .iconst 1, 1, 0, 0, 0, 0, 1, []),
  (32, .aload_n 0, 1, 0, 0, 0, 0, 0, []),
  (33, .getfield 16, 3, 9, 3, 3, 518, 3, [127]),
  (36, .sipush 259, 3, 0, 0, 0, 0, 259, []),
  (39, .iload_n 1, 1, 1, 0, 0, 0, 0, []),
  (40, .imul, 1, 0, 0, 0, 0, 0, []),
  (41, .invokevirtual 113, 3, 160, 4, 7, 0, 9, [136]),
  (44, .lconst 0, 1, 0, 0, 0, 0, 0, []),
  (45, .lstore_n 3, 1, 3, 0, 0, 0, 0, []),
  (46, .ldc2_w 316, 3, 0, 0, 0, 0, (-2), [23]),
  (49, .lstore 5, 2, 5, 0, 0, 0, 0, []),
  (51, .iconst 0, 1, 0, 0, 0, 0, 0, []),
  (52, .istore 7, 2, 7, 0, 0, 0, 0, []),
  (54, .iconst 0, 1, 0, 0, 0, 0, 0, []),
  (55, .istore 8, 2, 8, 0, 0, 0, 0, []),
  (57, .lconst 0, 1, 0, 0, 0, 0, 0, []),
  (58, .lstore 9, 2, 9, 0, 0, 0, 0, []),
  (60, .lload 9, 2, 9, 0, 0, 0, 0, []),
  (62, .ldc2_w 165, 3, 0, 0, 0, 0, 4294967296, [21]),
  (65, .lcmp, 4, 202, 3, 0, 0, 0, []),
  (69, .aload_n 0, 1, 0, 0, 0, 0, 0, []),
  (70, .iconst 0, 1, 0, 0, 0, 0, 0, []),
  (71, .iload 7, 2, 7, 0, 0, 0, 0, []),
  (73, .invokevirtual 201, 3, 161, 3, 3, 1, 9, [156]),
  (76, .aload_n 0, 1, 0, 0, 0, 0, 0, []),
  (77, .iconst 1, 1, 0, 0, 0, 0, 1, []),
  (78, .iload 8, 2, 8, 0, 0, 0, 0, []),
  (80, .invokevirtual 201, 3, 161, 3, 3, 1, 9, [156]),
  (83, .lcmp, 4, 97, 3, 0, 0, 0, []),
  (87, .aload_n 0, 1, 0, 0, 0, 0, 0, []),
  (88, .iconst 0, 1, 0, 0, 0, 0, 0, []),
  (89, .iload 7, 2, 7, 0, 0, 0, 0, []),
  (91, .invokevirtual 201, 3, 161, 3, 3, 1, 9, [156]),
  (94, .goto 10, 3, 104, 0, 0, 0, 0, []),
  (97, .aload_n 0, 1, 0, 0, 0, 0, 0, []),
  (98, .iconst 1, 1, 0, 0, 0, 0, 1, []),
  (99, .iload 8, 2, 8, 0, 0, 0, 0, []),
  (101, .invokevirtual 201, 3, 161, 3, 3, 1, 9, [156]),
  (104, .lstore 11, 2, 11, 0, 0, 0, 0, []),
  (106, .aload_n 0, 1, 0, 0, 0, 0, 0, []),
  (107, .getfield 30, 3, 9, 8, 3, 248, 7, [131]),
  (110, .iload 7, 2, 7, 0, 0, 0, 0, []),
  (112, .iaload, 1, 0, 0, 0, 0, 0, []),
  (113, .aload_n 0, 1, 0, 0, 0, 0, 0, []),
  (114, .getfield 30, 3, 9, 8, 3, 248, 7, [131]),
  (117, .bipush 124, 2, 0, 0, 0, 0, 124, []),
  (119, .iload 8, 2, 8, 0, 0, 0, 0, []),
  (121, .iadd, 1, 0, 0, 0, 0, 0, []),
  (122, .iaload, 1, 0, 0, 0, 0, 0, []),
  (123, .if_icmp .eq 26, 3, 149, 0, 0, 0, 0, []),
  (126, .lload_n 3, 1, 3, 0, 0, 0, 0, []),
  (127, .lconst 0, 1, 0, 0, 0, 0, 0, []),
  (128, .lcmp, 4, 137, 1, 0, 0, 0, []),
  (132, .lload 9, 2, 9, 0, 0, 0, 0, []),
  (134, .goto 5, 3, 139, 0, 0, 0, 0, []),
  (137, .lload 5, 2, 5, 0, 0, 0, 0, []),
  (139, .lstore 5, 2, 5, 0, 0, 0, 0, []),
  (141, .lload_n 3, 1, 3, 0, 0, 0, 0, []),
  (142, .lload 11, 2, 11, 0, 0, 0, 0, []),
  (144, .lload 9, 2, 9, 0, 0, 0, 0, []),
  (146, .lsub, 1, 0, 0, 0, 0, 0, []),
  (147, .ladd, 1, 0, 0, 0, 0, 0, []),
  (148, .lstore_n 3, 1, 3, 0, 0, 0, 0, []),
  (149, .iload 7, 2, 7, 0, 0, 0, 0, []),
  (151, .aload_n 0, 1, 0, 0, 0, 0, 0, []),
  (152, .iconst 0, 1, 0, 0, 0, 0, 0, []),
  (153, .iload 7, 2, 7, 0, 0, 0, 0, []),
  (155, .invokevirtual 201, 3, 161, 3, 3, 1, 9, [156]),
  (158, .lload 11, 2, 11, 0, 0, 0, 0, []),
  (160, .lcmp, 4, 168, 1, 0, 0, 0, []),
  (164, .iconst 1, 1, 0, 0, 0, 0, 1, []),
  (165, .goto 4, 3, 169, 0, 0, 0, 0, []),
  (168, .iconst 0, 1, 0, 0, 0, 0, 0, []),
  (169, .iadd, 1, 0, 0, 0, 0, 0, []),
  (170, .istore 7, 2, 7, 0, 0, 0, 0, []),
  (172, .iload 8, 2, 8, 0, 0, 0, 0, []),
  (174, .aload_n 0, 1, 0, 0, 0, 0, 0, []),
  (175, .iconst 1, 1, 0, 0, 0, 0, 1, []),
  (176, .iload 8, 2, 8, 0, 0, 0, 0, []),
  (178, .invokevirtual 201, 3, 161, 3, 3, 1, 9, [156]),
  (181, .lload 11, 2, 11, 0, 0, 0, 0, []),
  (183, .lcmp, 4, 191, 1, 0, 0, 0, []),
  (187, .iconst 1, 1, 0, 0, 0, 0, 1, []),
  (188, .goto 4, 3, 192, 0, 0, 0, 0, []),
  (191, .iconst 0, 1, 0, 0, 0, 0, 0, []),
  (192, .iadd, 1, 0, 0, 0, 0, 0, []),
  (193, .istore 8, 2, 8, 0, 0, 0, 0, []),
  (195, .lload 11, 2, 11, 0, 0, 0, 0, []),
  (197, .lstore 9, 2, 9, 0, 0, 0, 0, []),
  (199, .goto (-139), 3, 60, 0, 0, 0, 0, []),
  (202, .iload_n 2, 1, 2, 0, 0, 0, 0, []),
  (203, .ifCond .ne 7, 3, 210, 0, 0, 0, 0, []),
  (206, .lload_n 3, 1, 3, 0, 0, 0, 0, []),
  (207, .goto 5, 3, 212, 0, 0, 0, 0, []),
  (210, .lload 5, 2, 5, 0, 0, 0, 0, []),
  (212, .lreturn, 1, 0, 0, 0, 0, 0, [])]
abbrev kMo_servedBy : Nat := 218
def cMo_servedBy : List xE := [(0, .aload_n 0, 1, 0, 0, 0, 0, 0, []),
  (1, .aload_n 0, 1, 0, 0, 0, 0, 0, []),
  (2, .getfield 7, 3, 9, 0, 3, 259, 1, [125]),
  (5, .iconst 0, 1, 0, 0, 0, 0, 0, []),
  (6, .invokevirtual 186, 3, 158, 3, 4, 0, 9, [152]),
  (9, .lconst 0, 1, 0, 0, 0, 0, 0, []),
  (10, .lstore_n 2, 1, 2, 0, 0, 0, 0, []),
  (11, .iconst 0, 1, 0, 0, 0, 0, 0, []),
  (12, .istore 4, 2, 4, 0, 0, 0, 0, []),
  (14, .iload 4, 2, 4, 0, 0, 0, 0, []),
  (16, .aload_n 0, 1, 0, 0, 0, 0, 0, []),
  (17, .getfield 167, 3, 9, 12, 0, 0, 0, [157]),
  (20, .if_icmp .ge 57, 3, 77, 0, 0, 0, 0, []),
  (23, .aload_n 0, 1, 0, 0, 0, 0, 0, []),
  (24, .getfield 45, 3, 9, 14, 3, 124, 12, [136]),
  (27, .iload 4, 2, 4, 0, 0, 0, 0, []),
  (29, .iaload, 1, 0, 0, 0, 0, 0, []),
  (30, .iload_n 1, 1, 1, 0, 0, 0, 0, []),
  (31, .if_icmp .ne 40, 3, 71, 0, 0, 0, 0, []),
  (34, .lload_n 2, 1, 2, 0, 0, 0, 0, []),
  (35, .iload 4, 2, 4, 0, 0, 0, 0, []),
  (37, .iconst 1, 1, 0, 0, 0, 0, 1, []),
  (38, .iadd, 1, 0, 0, 0, 0, 0, []),
  (39, .aload_n 0, 1, 0, 0, 0, 0, 0, []),
  (40, .getfield 167, 3, 9, 12, 0, 0, 0, [157]),
  (43, .if_icmp .ge 15, 3, 58, 0, 0, 0, 0, []),
  (46, .aload_n 0, 1, 0, 0, 0, 0, 0, []),
  (47, .getfield 42, 3, 9, 13, 4, 124, 11, [135]),
  (50, .iload 4, 2, 4, 0, 0, 0, 0, []),
  (52, .iconst 1, 1, 0, 0, 0, 0, 1, []),
  (53, .iadd, 1, 0, 0, 0, 0, 0, []),
  (54, .laload, 1, 0, 0, 0, 0, 0, []),
  (55, .goto 6, 3, 61, 0, 0, 0, 0, []),
  (58, .ldc2_w 165, 3, 0, 0, 0, 0, 4294967296, [21]),
  (61, .aload_n 0, 1, 0, 0, 0, 0, 0, []),
  (62, .getfield 42, 3, 9, 13, 4, 124, 11, [135]),
  (65, .iload 4, 2, 4, 0, 0, 0, 0, []),
  (67, .laload, 1, 0, 0, 0, 0, 0, []),
  (68, .lsub, 1, 0, 0, 0, 0, 0, []),
  (69, .ladd, 1, 0, 0, 0, 0, 0, []),
  (70, .lstore_n 2, 1, 2, 0, 0, 0, 0, []),
  (71, .iinc 4 1, 3, 4, 0, 0, 0, 1, []),
  (74, .goto (-60), 3, 14, 0, 0, 0, 0, []),
  (77, .lload_n 2, 1, 2, 0, 0, 0, 0, []),
  (78, .lreturn, 1, 0, 0, 0, 0, 0, [])]
abbrev kMo_parentOf : Nat := 219
def cMo_parentOf : List xE := [(0, .iconst (-1), 1, 0, 0, 0, 0, (-1), []),
  (1, .istore_n 2, 1, 2, 0, 0, 0, 0, []),
  (2, .iconst 0, 1, 0, 0, 0, 0, 0, []),
  (3, .istore_n 3, 1, 3, 0, 0, 0, 0, []),
  (4, .iload_n 3, 1, 3, 0, 0, 0, 0, []),
  (5, .aload_n 0, 1, 0, 0, 0, 0, 0, []),
  (6, .getfield 7, 3, 9, 0, 3, 259, 1, [125]),
  (9, .iconst 0, 1, 0, 0, 0, 0, 0, []),
  (10, .iaload, 1, 0, 0, 0, 0, 0, []),
  (11, .if_icmp .ge 93, 3, 104, 0, 0, 0, 0, []),
  (14, .iload_n 3, 1, 3, 0, 0, 0, 0, []),
  (15, .iload_n 1, 1, 1, 0, 0, 0, 0, []),
  (16, .if_icmp .eq 82, 3, 98, 0, 0, 0, 0, []),
  (19, .aload_n 0, 1, 0, 0, 0, 0, 0, []),
  (20, .getfield 7, 3, 9, 0, 3, 259, 1, [125]),
  (23, .bipush 62, 2, 0, 0, 0, 0, 62, []),
  (25, .iload_n 3, 1, 3, 0, 0, 0, 0, []),
  (26, .iadd, 1, 0, 0, 0, 0, 0, []),
  (27, .iaload, 1, 0, 0, 0, 0, 0, []),
  (28, .aload_n 0, 1, 0, 0, 0, 0, 0, []),
  (29, .getfield 7, 3, 9, 0, 3, 259, 1, [125]),
  (32, .bipush 62, 2, 0, 0, 0, 0, 62, []),
  (34, .iload_n 1, 1, 1, 0, 0, 0, 0, []),
  (35, .iadd, 1, 0, 0, 0, 0, 0, []),
  (36, .iaload, 1, 0, 0, 0, 0, 0, []),
  (37, .if_icmp .ge 61, 3, 98, 0, 0, 0, 0, []),
  (40, .aload_n 0, 1, 0, 0, 0, 0, 0, []),
  (41, .iload_n 1, 1, 1, 0, 0, 0, 0, []),
  (42, .invokevirtual 136, 3, 144, 2, 2, 1, 9, [140]),
  (45, .aload_n 0, 1, 0, 0, 0, 0, 0, []),
  (46, .iload_n 3, 1, 3, 0, 0, 0, 0, []),
  (47, .invokevirtual 136, 3, 144, 2, 2, 1, 9, [140]),
  (50, .aload_n 0, 1, 0, 0, 0, 0, 0, []),
  (51, .getfield 7, 3, 9, 0, 3, 259, 1, [125]),
  (54, .iconst 0, 1, 0, 0, 0, 0, 0, []),
  (55, .iload_n 3, 1, 3, 0, 0, 0, 0, []),
  (56, .invokestatic 175, 3, 156, 3, 3, 1, 0, [149]),
  (59, .lconst 1, 1, 0, 0, 0, 0, 1, []),
  (60, .lsub, 1, 0, 0, 0, 0, 0, []),
  (61, .invokestatic 121, 3, 138, 3, 6, 1, 0, [137]),
  (64, .ifCond .ne 6, 3, 70, 0, 0, 0, 0, []),
  (67, .goto 31, 3, 98, 0, 0, 0, 0, []),
  (70, .iload_n 2, 1, 2, 0, 0, 0, 0, []),
  (71, .iconst (-1), 1, 0, 0, 0, 0, (-1), []),
  (72, .if_icmp .eq 24, 3, 96, 0, 0, 0, 0, []),
  (75, .aload_n 0, 1, 0, 0, 0, 0, 0, []),
  (76, .getfield 7, 3, 9, 0, 3, 259, 1, [125]),
  (79, .bipush 62, 2, 0, 0, 0, 0, 62, []),
  (81, .iload_n 3, 1, 3, 0, 0, 0, 0, []),
  (82, .iadd, 1, 0, 0, 0, 0, 0, []),
  (83, .iaload, 1, 0, 0, 0, 0, 0, []),
  (84, .aload_n 0, 1, 0, 0, 0, 0, 0, []),
  (85, .getfield 7, 3, 9, 0, 3, 259, 1, [125]),
  (88, .bipush 62, 2, 0, 0, 0, 0, 62, []),
  (90, .iload_n 2, 1, 2, 0, 0, 0, 0, []),
  (91, .iadd, 1, 0, 0, 0, 0, 0, []),
  (92, .iaload, 1, 0, 0, 0, 0, 0, []),
  (93, .if_icmp .le 5, 3, 98, 0, 0, 0, 0, []),
  (96, .iload_n 3, 1, 3, 0, 0, 0, 0, []),
  (97, .istore_n 2, 1, 2, 0, 0, 0, 0, []),
  (98, .iinc 3 1, 3, 3, 0, 0, 0, 1, []),
  (101, .goto (-97), 3, 4, 0, 0, 0, 0, []),
  (104, .iload_n 2, 1, 2, 0, 0, 0, 0, []),
  (105, .ireturn, 1, 0, 0, 0, 0, 0, [])]
abbrev kMo_isRule : Nat := 220
def cMo_isRule : List xE := [(0, .iload_n 1, 1, 1, 0, 0, 0, 0, []),
  (1, .i2l, 1, 0, 0, 0, 0, 0, []),
  (2, .lconst 0, 1, 0, 0, 0, 0, 0, []),
  (3, .aload_n 0, 1, 0, 0, 0, 0, 0, []),
  (4, .getfield 7, 3, 9, 0, 3, 259, 1, [125]),
  (7, .iconst 0, 1, 0, 0, 0, 0, 0, []),
  (8, .iaload, 1, 0, 0, 0, 0, 0, []),
  (9, .iconst 1, 1, 0, 0, 0, 0, 1, []),
  (10, .isub, 1, 0, 0, 0, 0, 0, []),
  (11, .i2l, 1, 0, 0, 0, 0, 0, []),
  (12, .invokestatic 121, 3, 138, 3, 6, 1, 0, [137]),
  (15, .ireturn, 1, 1, 0, 0, 0, 0, [])]
abbrev kMo_rule : Nat := 221
def cMo_rule : List xE := [(0, .aload_n 0, 1, 0, 0, 0, 0, 0, []),
  (1, .iload_n 1, 1, 1, 0, 0, 0, 0, []),
  (2, .invokevirtual 433, 3, 220, 2, 2, 1, 9, [199]),
  (5, .ifCond .ne 14, 3, 19, 0, 0, 0, 0, []),
  (8, .iload_n 2, 1, 2, 0, 0, 0, 0, []),
  (9, .ifCond .ne 7, 3, 16, 0, 0, 0, 0, []),
  (12, .iconst 0, 1, 0, 0, 0, 0, 0, []),
  (13, .goto 5, 3, 18, 0, 0, 0, 0, []),
  (16, .bipush (-2), 2, 0, 0, 0, 0, (-2), []),
  (18, .ireturn, 1, 0, 0, 0, 0, 0, []),
  (19, .iload_n 2, 1, 2, 0, 0, 0, 0, []),
  (20, .tableswitch 87 0 4 #[36, 45, 55, 65, 81], 36, 107, 0, 0, 0, 0, [56, 65, 75, 85, 101]),
  (56, .aload_n 0, 1, 0, 0, 0, 0, 0, []),
  (57, .getfield 7, 3, 9, 0, 3, 259, 1, [125]),
  (60, .iconst 2, 1, 0, 0, 0, 0, 2, []),
  (61, .iload_n 1, 1, 1, 0, 0, 0, 0, []),
  (62, .iadd, 1, 0, 0, 0, 0, 0, []),
  (63, .iaload, 1, 0, 0, 0, 0, 0, []),
  (64, .ireturn, 1, 0, 0, 0, 0, 0, []),
  (65, .aload_n 0, 1, 0, 0, 0, 0, 0, []),
  (66, .getfield 7, 3, 9, 0, 3, 259, 1, [125]),
  (69, .bipush 62, 2, 0, 0, 0, 0, 62, []),
  (71, .iload_n 1, 1, 1, 0, 0, 0, 0, []),
  (72, .iadd, 1, 0, 0, 0, 0, 0, []),
  (73, .iaload, 1, 0, 0, 0, 0, 0, []),
  (74, .ireturn, 1, 0, 0, 0, 0, 0, []),
  (75, .aload_n 0, 1, 0, 0, 0, 0, 0, []),
  (76, .getfield 7, 3, 9, 0, 3, 259, 1, [125]),
  (79, .bipush 122, 2, 0, 0, 0, 0, 122, []),
  (81, .iload_n 1, 1, 1, 0, 0, 0, 0, []),
  (82, .iadd, 1, 0, 0, 0, 0, 0, []),
  (83, .iaload, 1, 0, 0, 0, 0, 0, []),
  (84, .ireturn, 1, 0, 0, 0, 0, 0, []),
  (85, .aload_n 0, 1, 0, 0, 0, 0, 0, []),
  (86, .iload_n 1, 1, 1, 0, 0, 0, 0, []),
  (87, .invokevirtual 436, 3, 218, 2, 5, 1, 9, [200]),
  (90, .lconst 0, 1, 0, 0, 0, 0, 0, []),
  (91, .lcmp, 4, 99, 1, 0, 0, 0, []),
  (95, .iconst 1, 1, 0, 0, 0, 0, 1, []),
  (96, .goto 4, 3, 100, 0, 0, 0, 0, []),
  (99, .iconst 0, 1, 0, 0, 0, 0, 0, []),
  (100, .ireturn, 1, 0, 0, 0, 0, 0, []),
  (101, .aload_n 0, 1, 0, 0, 0, 0, 0, []),
  (102, .iload_n 1, 1, 1, 0, 0, 0, 0, []),
  (103, .invokevirtual 439, 3, 219, 2, 4, 1, 9, [201]),
  (106, .ireturn, 1, 0, 0, 0, 0, 0, []),
  (107, .bipush (-2), 2, 0, 0, 0, 0, (-2), []),
  (109, .ireturn, 1, 0, 0, 0, 0, 0, [])]
abbrev kMo_served : Nat := 222
def cMo_served : List xE := [(0, .aload_n 0, 1, 0, 0, 0, 0, 0, []),
  (1, .iload_n 1, 1, 1, 0, 0, 0, 0, []),
  (2, .invokevirtual 433, 3, 220, 2, 2, 1, 9, [199]),
  (5, .ifCond .eq 11, 3, 16, 0, 0, 0, 0, []),
  (8, .aload_n 0, 1, 0, 0, 0, 0, 0, []),
  (9, .iload_n 1, 1, 1, 0, 0, 0, 0, []),
  (10, .invokevirtual 436, 3, 218, 2, 5, 1, 9, [200]),
  (13, .goto 6, 3, 19, 0, 0, 0, 0, []),
  (16, .ldc2_w 264, 3, 0, 0, 0, 0, (-1), [22]),
  (19, .lreturn, 1, 0, 0, 0, 0, 0, [])]
abbrev kMo_isHop : Nat := 223
def cMo_isHop : List xE := [(0, .iload_n 1, 1, 1, 0, 0, 0, 0, []),
  (1, .i2l, 1, 0, 0, 0, 0, 0, []),
  (2, .lconst 0, 1, 0, 0, 0, 0, 0, []),
  (3, .ldc2_w 442, 3, 0, 0, 0, 0, 60, [32]),
  (6, .invokestatic 121, 3, 138, 3, 6, 1, 0, [137]),
  (9, .ifCond .eq 21, 3, 30, 0, 0, 0, 0, []),
  (12, .aload_n 0, 1, 0, 0, 0, 0, 0, []),
  (13, .getfield 7, 3, 9, 0, 3, 259, 1, [125]),
  (16, .sipush 182, 3, 0, 0, 0, 0, 182, []),
  (19, .iload_n 1, 1, 1, 0, 0, 0, 0, []),
  (20, .iadd, 1, 0, 0, 0, 0, 0, []),
  (21, .iaload, 1, 0, 0, 0, 0, 0, []),
  (22, .iconst (-1), 1, 0, 0, 0, 0, (-1), []),
  (23, .if_icmp .eq 7, 3, 30, 0, 0, 0, 0, []),
  (26, .iconst 1, 1, 0, 0, 0, 0, 1, []),
  (27, .goto 4, 3, 31, 0, 0, 0, 0, []),
  (30, .iconst 0, 1, 0, 0, 0, 0, 0, []),
  (31, .ireturn, 1, 1, 0, 0, 0, 0, [])]
abbrev kMo_hop : Nat := 224
def cMo_hop : List xE := [(0, .aload_n 0, 1, 0, 0, 0, 0, 0, []),
  (1, .iload_n 1, 1, 1, 0, 0, 0, 0, []),
  (2, .invokevirtual 444, 3, 223, 2, 2, 1, 9, [202]),
  (5, .ifCond .ne 5, 3, 10, 0, 0, 0, 0, []),
  (8, .iconst (-1), 1, 0, 0, 0, 0, (-1), []),
  (9, .ireturn, 1, 0, 0, 0, 0, 0, []),
  (10, .iload_n 2, 1, 2, 0, 0, 0, 0, []),
  (11, .tableswitch 59 0 2 #[25, 39, 53], 25, 70, 0, 0, 0, 0, [36, 50, 64]),
  (36, .aload_n 0, 1, 0, 0, 0, 0, 0, []),
  (37, .getfield 7, 3, 9, 0, 3, 259, 1, [125]),
  (40, .sipush 182, 3, 0, 0, 0, 0, 182, []),
  (43, .iload_n 1, 1, 1, 0, 0, 0, 0, []),
  (44, .iadd, 1, 0, 0, 0, 0, 0, []),
  (45, .iaload, 1, 0, 0, 0, 0, 0, []),
  (46, .bipush 10, 2, 0, 0, 0, 0, 10, []),
  (48, .idiv, 1, 0, 0, 0, 0, 0, []),
  (49, .ireturn, 1, 0, 0, 0, 0, 0, []),
  (50, .aload_n 0, 1, 0, 0, 0, 0, 0, []),
  (51, .getfield 7, 3, 9, 0, 3, 259, 1, [125]),
  (54, .sipush 182, 3, 0, 0, 0, 0, 182, []),
  (57, .iload_n 1, 1, 1, 0, 0, 0, 0, []),
  (58, .iadd, 1, 0, 0, 0, 0, 0, []),
  (59, .iaload, 1, 0, 0, 0, 0, 0, []),
  (60, .bipush 10, 2, 0, 0, 0, 0, 10, []),
  (62, .irem, 1, 0, 0, 0, 0, 0, []),
  (63, .ireturn, 1, 0, 0, 0, 0, 0, []),
  (64, .aload_n 0, 1, 0, 0, 0, 0, 0, []),
  (65, .iload_n 1, 1, 1, 0, 0, 0, 0, []),
  (66, .invokevirtual 143, 3, 146, 2, 4, 1, 9, [142]),
  (69, .ireturn, 1, 0, 0, 0, 0, 0, []),
  (70, .iconst (-1), 1, 0, 0, 0, 0, (-1), []),
  (71, .ireturn, 1, 0, 0, 0, 0, 0, [])]
abbrev kMo_reach : Nat := 225
def cMo_reach : List xE := [(0, .iload_n 1, 1, 1, 0, 0, 0, 0, []),
  (1, .iconst (-1), 1, 0, 0, 0, 0, (-1), []),
  (2, .if_icmp .eq 15, 3, 17, 0, 0, 0, 0, []),
  (5, .aload_n 0, 1, 0, 0, 0, 0, 0, []),
  (6, .iload_n 1, 1, 1, 0, 0, 0, 0, []),
  (7, .invokevirtual 444, 3, 223, 2, 2, 1, 9, [202]),
  (10, .ifCond .ne 7, 3, 17, 0, 0, 0, 0, []),
  (13, .ldc2_w 316, 3, 0, 0, 0, 0, (-2), [23]),
  (16, .lreturn, 1, 0, 0, 0, 0, 0, []),
  (17, .iload_n 1, 1, 1, 0, 0, 0, 0, []),
  (18, .iconst (-1), 1, 0, 0, 0, 0, (-1), []),
  (19, .if_icmp .ne 7, 3, 26, 0, 0, 0, 0, []),
  (22, .iconst (-1), 1, 0, 0, 0, 0, (-1), []),
  (23, .goto 13, 3, 36, 0, 0, 0, 0, []),
  (26, .aload_n 0, 1, 0, 0, 0, 0, 0, []),
  (27, .getfield 7, 3, 9, 0, 3, 259, 1, [125]),
  (30, .sipush 182, 3, 0, 0, 0, 0, 182, []),
  (33, .iload_n 1, 1, 1, 0, 0, 0, 0, []),
  (34, .iadd, 1, 0, 0, 0, 0, 0, []),
  (35, .iaload, 1, 0, 0, 0, 0, 0, []),
  (36, .istore_n 2, 1, 2, 0, 0, 0, 0, []),
  (37, .lconst 0, 1, 0, 0, 0, 0, 0, []),
  (38, .lstore_n 3, 1, 3, 0, 0, 0, 0, []),
  (39, .iconst 0, 1, 0, 0, 0, 0, 0, []),
  (40, .istore 5, 2, 5, 0, 0, 0, 0, []),
  (42, .iload 5, 2, 5, 0, 0, 0, 0, []),
  (44, .aload_n 0, 1, 0, 0, 0, 0, 0, []),
  (45, .getfield 23, 3, 9, 6, 3, 2, 5, [129]),
  (48, .iconst 0, 1, 0, 0, 0, 0, 0, []),
  (49, .iaload, 1, 0, 0, 0, 0, 0, []),
  (50, .if_icmp .ge 42, 3, 92, 0, 0, 0, 0, []),
  (53, .lload_n 3, 1, 3, 0, 0, 0, 0, []),
  (54, .aload_n 0, 1, 0, 0, 0, 0, 0, []),
  (55, .getfield 30, 3, 9, 8, 3, 248, 7, [131]),
  (58, .iload 5, 2, 5, 0, 0, 0, 0, []),
  (60, .iaload, 1, 0, 0, 0, 0, 0, []),
  (61, .iload_n 2, 1, 2, 0, 0, 0, 0, []),
  (62, .if_icmp .ne 21, 3, 83, 0, 0, 0, 0, []),
  (65, .aload_n 0, 1, 0, 0, 0, 0, 0, []),
  (66, .iconst 0, 1, 0, 0, 0, 0, 0, []),
  (67, .iload 5, 2, 5, 0, 0, 0, 0, []),
  (69, .invokevirtual 201, 3, 161, 3, 3, 1, 9, [156]),
  (72, .aload_n 0, 1, 0, 0, 0, 0, 0, []),
  (73, .getfield 26, 3, 9, 7, 4, 248, 6, [130]),
  (76, .iload 5, 2, 5, 0, 0, 0, 0, []),
  (78, .laload, 1, 0, 0, 0, 0, 0, []),
  (79, .lsub, 1, 0, 0, 0, 0, 0, []),
  (80, .goto 4, 3, 84, 0, 0, 0, 0, []),
  (83, .lconst 0, 1, 0, 0, 0, 0, 0, []),
  (84, .ladd, 1, 0, 0, 0, 0, 0, []),
  (85, .lstore_n 3, 1, 3, 0, 0, 0, 0, []),
  (86, .iinc 5 1, 3, 5, 0, 0, 0, 1, []),
  (89, .goto (-47), 3, 42, 0, 0, 0, 0, []),
  (92, .lload_n 3, 1, 3, 0, 0, 0, 0, []),
  (93, .lreturn, 1, 0, 0, 0, 0, 0, [])]
abbrev kMo_isNode : Nat := 226
def cMo_isNode : List xE := [(0, .iload_n 1, 1, 1, 0, 0, 0, 0, []),
  (1, .i2l, 1, 0, 0, 0, 0, 0, []),
  (2, .lconst 0, 1, 0, 0, 0, 0, 0, []),
  (3, .aload_n 0, 1, 0, 0, 0, 0, 0, []),
  (4, .getfield 205, 3, 9, 15, 0, 0, 0, [158]),
  (7, .iconst 1, 1, 0, 0, 0, 0, 1, []),
  (8, .isub, 1, 0, 0, 0, 0, 0, []),
  (9, .i2l, 1, 0, 0, 0, 0, 0, []),
  (10, .invokestatic 121, 3, 138, 3, 6, 1, 0, [137]),
  (13, .ireturn, 1, 1, 0, 0, 0, 0, [])]
abbrev kMo_parentNode : Nat := 227
def cMo_parentNode : List xE := [(0, .aload_n 0, 1, 0, 0, 0, 0, 0, []),
  (1, .getfield 48, 3, 9, 16, 3, 2000, 13, [137]),
  (4, .iload_n 1, 1, 1, 0, 0, 0, 0, []),
  (5, .iaload, 1, 0, 0, 0, 0, 0, []),
  (6, .ifCond .ne 7, 3, 13, 0, 0, 0, 0, []),
  (9, .iconst (-1), 1, 0, 0, 0, 0, (-1), []),
  (10, .goto 21, 3, 31, 0, 0, 0, 0, []),
  (13, .aload_n 0, 1, 0, 0, 0, 0, 0, []),
  (14, .aload_n 0, 1, 0, 0, 0, 0, 0, []),
  (15, .getfield 48, 3, 9, 16, 3, 2000, 13, [137]),
  (18, .iload_n 1, 1, 1, 0, 0, 0, 0, []),
  (19, .iaload, 1, 0, 0, 0, 0, 0, []),
  (20, .iconst 1, 1, 0, 0, 0, 0, 1, []),
  (21, .isub, 1, 0, 0, 0, 0, 0, []),
  (22, .aload_n 0, 1, 0, 0, 0, 0, 0, []),
  (23, .getfield 51, 3, 9, 17, 4, 2000, 14, [138]),
  (26, .iload_n 1, 1, 1, 0, 0, 0, 0, []),
  (27, .laload, 1, 0, 0, 0, 0, 0, []),
  (28, .invokevirtual 430, 3, 169, 3, 9, 1, 9, [198]),
  (31, .ireturn, 1, 0, 0, 0, 0, 0, [])]
abbrev kMo_node : Nat := 228
def cMo_node : List xE := [(0, .aload_n 0, 1, 0, 0, 0, 0, 0, []),
  (1, .iload_n 1, 1, 1, 0, 0, 0, 0, []),
  (2, .invokevirtual 447, 3, 226, 2, 2, 1, 9, [203]),
  (5, .ifCond .eq 15, 3, 20, 0, 0, 0, 0, []),
  (8, .iload_n 2, 1, 2, 0, 0, 0, 0, []),
  (9, .i2l, 1, 0, 0, 0, 0, 0, []),
  (10, .lconst 0, 1, 0, 0, 0, 0, 0, []),
  (11, .ldc2_w 450, 3, 0, 0, 0, 0, 5, [33]),
  (14, .invokestatic 121, 3, 138, 3, 6, 1, 0, [137]),
  (17, .ifCond .ne 20, 3, 37, 0, 0, 0, 0, []),
  (20, .iload_n 2, 1, 2, 0, 0, 0, 0, []),
  (21, .ifCond .eq 8, 3, 29, 0, 0, 0, 0, []),
  (24, .iload_n 2, 1, 2, 0, 0, 0, 0, []),
  (25, .iconst 1, 1, 0, 0, 0, 0, 1, []),
  (26, .if_icmp .ne 7, 3, 33, 0, 0, 0, 0, []),
  (29, .lconst 0, 1, 0, 0, 0, 0, 0, []),
  (30, .goto 6, 3, 36, 0, 0, 0, 0, []),
  (33, .ldc2_w 316, 3, 0, 0, 0, 0, (-2), [23]),
  (36, .lreturn, 1, 0, 0, 0, 0, 0, []),
  (37, .aload_n 0, 1, 0, 0, 0, 0, 0, []),
  (38, .iconst 0, 1, 0, 0, 0, 0, 0, []),
  (39, .aload_n 0, 1, 0, 0, 0, 0, 0, []),
  (40, .getfield 48, 3, 9, 16, 3, 2000, 13, [137]),
  (43, .iload_n 1, 1, 1, 0, 0, 0, 0, []),
  (44, .iaload, 1, 0, 0, 0, 0, 0, []),
  (45, .aload_n 0, 1, 0, 0, 0, 0, 0, []),
  (46, .getfield 51, 3, 9, 17, 4, 2000, 14, [138]),
  (49, .iload_n 1, 1, 1, 0, 0, 0, 0, []),
  (50, .laload, 1, 0, 0, 0, 0, 0, []),
  (51, .invokevirtual 243, 3, 172, 4, 11, 0, 9, [163]),
  (54, .iload_n 2, 1, 2, 0, 0, 0, 0, []),
  (55, .tableswitch 64 0 4 #[33, 38, 43, 51, 58], 33, 119, 0, 0, 0, 0, [88, 93, 98, 106, 113]),
  (88, .aload_n 0, 1, 0, 0, 0, 0, 0, []),
  (89, .getfield 224, 3, 9, 20, 1, 0, 0, [160]),
  (92, .lreturn, 1, 0, 0, 0, 0, 0, []),
  (93, .aload_n 0, 1, 0, 0, 0, 0, 0, []),
  (94, .getfield 228, 3, 9, 21, 1, 0, 0, [161]),
  (97, .lreturn, 1, 0, 0, 0, 0, 0, []),
  (98, .aload_n 0, 1, 0, 0, 0, 0, 0, []),
  (99, .getfield 48, 3, 9, 16, 3, 2000, 13, [137]),
  (102, .iload_n 1, 1, 1, 0, 0, 0, 0, []),
  (103, .iaload, 1, 0, 0, 0, 0, 0, []),
  (104, .i2l, 1, 0, 0, 0, 0, 0, []),
  (105, .lreturn, 1, 0, 0, 0, 0, 0, []),
  (106, .aload_n 0, 1, 0, 0, 0, 0, 0, []),
  (107, .getfield 51, 3, 9, 17, 4, 2000, 14, [138]),
  (110, .iload_n 1, 1, 1, 0, 0, 0, 0, []),
  (111, .laload, 1, 0, 0, 0, 0, 0, []),
  (112, .lreturn, 1, 0, 0, 0, 0, 0, []),
  (113, .aload_n 0, 1, 0, 0, 0, 0, 0, []),
  (114, .getfield 231, 3, 9, 22, 0, 0, 0, [162]),
  (117, .i2l, 1, 0, 0, 0, 0, 0, []),
  (118, .lreturn, 1, 0, 0, 0, 0, 0, []),
  (119, .aload_n 0, 1, 0, 0, 0, 0, 0, []),
  (120, .iload_n 1, 1, 1, 0, 0, 0, 0, []),
  (121, .invokevirtual 452, 3, 227, 2, 2, 1, 9, [204]),
  (124, .i2l, 1, 0, 0, 0, 0, 0, []),
  (125, .lreturn, 1, 0, 0, 0, 0, 0, [])]
abbrev kMo_hopBy : Nat := 229
def cMo_hopBy : List xE := [(0, .iload_n 1, 1, 1, 0, 0, 0, 0, []),
  (1, .iconst (-1), 1, 0, 0, 0, 0, (-1), []),
  (2, .if_icmp .ne 7, 3, 9, 0, 0, 0, 0, []),
  (5, .iconst (-1), 1, 0, 0, 0, 0, (-1), []),
  (6, .goto 8, 3, 14, 0, 0, 0, 0, []),
  (9, .aload_n 0, 1, 0, 0, 0, 0, 0, []),
  (10, .iload_n 1, 1, 1, 0, 0, 0, 0, []),
  (11, .invokevirtual 139, 3, 147, 2, 3, 1, 9, [141]),
  (14, .ireturn, 1, 0, 0, 0, 0, 0, [])]
abbrev kMo_stored : Nat := 230
def cMo_stored : List xE := [(0, .aload_n 0, 1, 0, 0, 0, 0, 0, []),
  (1, .iload_n 1, 1, 1, 0, 0, 0, 0, []),
  (2, .invokevirtual 447, 3, 226, 2, 2, 1, 9, [203]),
  (5, .ifCond .ne 6, 3, 11, 0, 0, 0, 0, []),
  (8, .bipush (-2), 2, 0, 0, 0, 0, (-2), []),
  (10, .ireturn, 1, 0, 0, 0, 0, 0, []),
  (11, .aload_n 0, 1, 0, 0, 0, 0, 0, []),
  (12, .iconst 0, 1, 0, 0, 0, 0, 0, []),
  (13, .aload_n 0, 1, 0, 0, 0, 0, 0, []),
  (14, .getfield 48, 3, 9, 16, 3, 2000, 13, [137]),
  (17, .iload_n 1, 1, 1, 0, 0, 0, 0, []),
  (18, .iaload, 1, 0, 0, 0, 0, 0, []),
  (19, .aload_n 0, 1, 0, 0, 0, 0, 0, []),
  (20, .getfield 51, 3, 9, 17, 4, 2000, 14, [138]),
  (23, .iload_n 1, 1, 1, 0, 0, 0, 0, []),
  (24, .laload, 1, 0, 0, 0, 0, 0, []),
  (25, .invokevirtual 243, 3, 172, 4, 11, 0, 9, [163]),
  (28, .iload_n 2, 1, 2, 0, 0, 0, 0, []),
  (29, .i2l, 1, 0, 0, 0, 0, 0, []),
  (30, .lconst 0, 1, 0, 0, 0, 0, 0, []),
  (31, .aload_n 0, 1, 0, 0, 0, 0, 0, []),
  (32, .getfield 231, 3, 9, 22, 0, 0, 0, [162]),
  (35, .iconst 1, 1, 0, 0, 0, 0, 1, []),
  (36, .isub, 1, 0, 0, 0, 0, 0, []),
  (37, .i2l, 1, 0, 0, 0, 0, 0, []),
  (38, .invokestatic 121, 3, 138, 3, 6, 1, 0, [137]),
  (41, .ifCond .eq 16, 3, 57, 0, 0, 0, 0, []),
  (44, .aload_n 0, 1, 0, 0, 0, 0, 0, []),
  (45, .aload_n 0, 1, 0, 0, 0, 0, 0, []),
  (46, .getfield 57, 3, 9, 23, 3, 64, 16, [140]),
  (49, .iload_n 2, 1, 2, 0, 0, 0, 0, []),
  (50, .iaload, 1, 0, 0, 0, 0, 0, []),
  (51, .invokevirtual 455, 3, 229, 2, 2, 1, 9, [205]),
  (54, .goto 5, 3, 59, 0, 0, 0, 0, []),
  (57, .bipush (-2), 2, 0, 0, 0, 0, (-2), []),
  (59, .ireturn, 1, 0, 0, 0, 0, 0, [])]
abbrev kMo_slotFirst : Nat := 231
def cMo_slotFirst : List xE := [(0, .aload_n 0, 1, 0, 0, 0, 0, 0, []),
  (1, .getfield 51, 3, 9, 17, 4, 2000, 14, [138]),
  (4, .iload_n 1, 1, 1, 0, 0, 0, 0, []),
  (5, .laload, 1, 0, 0, 0, 0, 0, []),
  (6, .iload_n 2, 1, 2, 0, 0, 0, 0, []),
  (7, .i2l, 1, 0, 0, 0, 0, 0, []),
  (8, .aload_n 0, 1, 0, 0, 0, 0, 0, []),
  (9, .iconst 0, 1, 0, 0, 0, 0, 0, []),
  (10, .aload_n 0, 1, 0, 0, 0, 0, 0, []),
  (11, .getfield 48, 3, 9, 16, 3, 2000, 13, [137]),
  (14, .iload_n 1, 1, 1, 0, 0, 0, 0, []),
  (15, .iaload, 1, 0, 0, 0, 0, 0, []),
  (16, .invokevirtual 234, 3, 171, 3, 3, 1, 9, [160]),
  (19, .lmul, 1, 0, 0, 0, 0, 0, []),
  (20, .ladd, 1, 0, 0, 0, 0, 0, []),
  (21, .lreturn, 1, 0, 0, 0, 0, 0, [])]
abbrev kMo_leads : Nat := 232
def cMo_leads : List xE := [(0, .aload_n 0, 1, 0, 0, 0, 0, 0, []),
  (1, .iconst 0, 1, 0, 0, 0, 0, 0, []),
  (2, .aload_n 0, 1, 0, 0, 0, 0, 0, []),
  (3, .iload_n 1, 1, 1, 0, 0, 0, 0, []),
  (4, .iload_n 2, 1, 2, 0, 0, 0, 0, []),
  (5, .invokevirtual 458, 3, 231, 3, 3, 1, 9, [206]),
  (8, .aload_n 0, 1, 0, 0, 0, 0, 0, []),
  (9, .iconst 0, 1, 0, 0, 0, 0, 0, []),
  (10, .aload_n 0, 1, 0, 0, 0, 0, 0, []),
  (11, .getfield 48, 3, 9, 16, 3, 2000, 13, [137]),
  (14, .iload_n 1, 1, 1, 0, 0, 0, 0, []),
  (15, .iaload, 1, 0, 0, 0, 0, 0, []),
  (16, .invokevirtual 234, 3, 171, 3, 3, 1, 9, [160]),
  (19, .invokevirtual 220, 3, 163, 4, 6, 1, 9, [159]),
  (22, .ifCond .ne 7, 3, 29, 0, 0, 0, 0, []),
  (25, .iconst 1, 1, 0, 0, 0, 0, 1, []),
  (26, .goto 4, 3, 30, 0, 0, 0, 0, []),
  (29, .iconst 0, 1, 0, 0, 0, 0, 0, []),
  (30, .ireturn, 1, 1, 0, 0, 0, 0, [])]
abbrev kMo_slot : Nat := 233
def cMo_slot : List xE := [(0, .aload_n 0, 1, 0, 0, 0, 0, 0, []),
  (1, .iload_n 1, 1, 1, 0, 0, 0, 0, []),
  (2, .invokevirtual 447, 3, 226, 2, 2, 1, 9, [203]),
  (5, .ifCond .eq 36, 3, 41, 0, 0, 0, 0, []),
  (8, .iload_n 2, 1, 2, 0, 0, 0, 0, []),
  (9, .i2l, 1, 0, 0, 0, 0, 0, []),
  (10, .lconst 0, 1, 0, 0, 0, 0, 0, []),
  (11, .aload_n 0, 1, 0, 0, 0, 0, 0, []),
  (12, .iconst 0, 1, 0, 0, 0, 0, 0, []),
  (13, .aload_n 0, 1, 0, 0, 0, 0, 0, []),
  (14, .getfield 48, 3, 9, 16, 3, 2000, 13, [137]),
  (17, .iload_n 1, 1, 1, 0, 0, 0, 0, []),
  (18, .iaload, 1, 0, 0, 0, 0, 0, []),
  (19, .invokevirtual 237, 3, 170, 3, 3, 1, 9, [161]),
  (22, .iconst 1, 1, 0, 0, 0, 0, 1, []),
  (23, .isub, 1, 0, 0, 0, 0, 0, []),
  (24, .i2l, 1, 0, 0, 0, 0, 0, []),
  (25, .invokestatic 121, 3, 138, 3, 6, 1, 0, [137]),
  (28, .ifCond .eq 13, 3, 41, 0, 0, 0, 0, []),
  (31, .iload_n 3, 1, 3, 0, 0, 0, 0, []),
  (32, .i2l, 1, 0, 0, 0, 0, 0, []),
  (33, .lconst 0, 1, 0, 0, 0, 0, 0, []),
  (34, .lconst 1, 1, 0, 0, 0, 0, 1, []),
  (35, .invokestatic 121, 3, 138, 3, 6, 1, 0, [137]),
  (38, .ifCond .ne 6, 3, 44, 0, 0, 0, 0, []),
  (41, .bipush (-3), 2, 0, 0, 0, 0, (-3), []),
  (43, .ireturn, 1, 0, 0, 0, 0, 0, []),
  (44, .aload_n 0, 1, 0, 0, 0, 0, 0, []),
  (45, .iload_n 1, 1, 1, 0, 0, 0, 0, []),
  (46, .iload_n 2, 1, 2, 0, 0, 0, 0, []),
  (47, .invokevirtual 461, 3, 232, 3, 3, 1, 9, [207]),
  (50, .istore 4, 2, 4, 0, 0, 0, 0, []),
  (52, .iload_n 3, 1, 3, 0, 0, 0, 0, []),
  (53, .ifCond .ne 31, 3, 84, 0, 0, 0, 0, []),
  (56, .iload 4, 2, 4, 0, 0, 0, 0, []),
  (58, .ifCond .eq 24, 3, 82, 0, 0, 0, 0, []),
  (61, .aload_n 0, 1, 0, 0, 0, 0, 0, []),
  (62, .aload_n 0, 1, 0, 0, 0, 0, 0, []),
  (63, .getfield 48, 3, 9, 16, 3, 2000, 13, [137]),
  (66, .iload_n 1, 1, 1, 0, 0, 0, 0, []),
  (67, .iaload, 1, 0, 0, 0, 0, 0, []),
  (68, .iconst 1, 1, 0, 0, 0, 0, 1, []),
  (69, .iadd, 1, 0, 0, 0, 0, 0, []),
  (70, .aload_n 0, 1, 0, 0, 0, 0, 0, []),
  (71, .iload_n 1, 1, 1, 0, 0, 0, 0, []),
  (72, .iload_n 2, 1, 2, 0, 0, 0, 0, []),
  (73, .invokevirtual 458, 3, 231, 3, 3, 1, 9, [206]),
  (76, .invokevirtual 430, 3, 169, 3, 9, 1, 9, [198]),
  (79, .goto 4, 3, 83, 0, 0, 0, 0, []),
  (82, .iconst (-1), 1, 0, 0, 0, 0, (-1), []),
  (83, .ireturn, 1, 0, 0, 0, 0, 0, []),
  (84, .iload 4, 2, 4, 0, 0, 0, 0, []),
  (86, .ifCond .eq 8, 3, 94, 0, 0, 0, 0, []),
  (89, .bipush (-2), 2, 0, 0, 0, 0, (-2), []),
  (91, .goto 18, 3, 109, 0, 0, 0, 0, []),
  (94, .aload_n 0, 1, 0, 0, 0, 0, 0, []),
  (95, .aload_n 0, 1, 0, 0, 0, 0, 0, []),
  (96, .iconst 0, 1, 0, 0, 0, 0, 0, []),
  (97, .aload_n 0, 1, 0, 0, 0, 0, 0, []),
  (98, .iload_n 1, 1, 1, 0, 0, 0, 0, []),
  (99, .iload_n 2, 1, 2, 0, 0, 0, 0, []),
  (100, .invokevirtual 458, 3, 231, 3, 3, 1, 9, [206]),
  (103, .invokevirtual 240, 3, 164, 3, 4, 1, 9, [162]),
  (106, .invokevirtual 455, 3, 229, 2, 2, 1, 9, [205]),
  (109, .ireturn, 1, 0, 0, 0, 0, 0, [])]
abbrev kMo_laysKinds : Nat := 234
def cMo_laysKinds : List xE := [(0, .aload_n 0, 1, 0, 0, 0, 0, 0, []),
  (1, .getfield 48, 3, 9, 16, 3, 2000, 13, [137]),
  (4, .iload_n 1, 1, 1, 0, 0, 0, 0, []),
  (5, .iaload, 1, 0, 0, 0, 0, 0, []),
  (6, .istore_n 2, 1, 2, 0, 0, 0, 0, []),
  (7, .iload_n 2, 1, 2, 0, 0, 0, 0, []),
  (8, .iconst 1, 1, 0, 0, 0, 0, 1, []),
  (9, .iadd, 1, 0, 0, 0, 0, 0, []),
  (10, .aload_n 0, 1, 0, 0, 0, 0, 0, []),
  (11, .getfield 33, 3, 9, 9, 3, 2, 8, [132]),
  (14, .iconst 0, 1, 0, 0, 0, 0, 0, []),
  (15, .iaload, 1, 0, 0, 0, 0, 0, []),
  (16, .if_icmp .ge 14, 3, 30, 0, 0, 0, 0, []),
  (19, .aload_n 0, 1, 0, 0, 0, 0, 0, []),
  (20, .getfield 54, 3, 9, 18, 3, 18, 15, [139]),
  (23, .iload_n 2, 1, 2, 0, 0, 0, 0, []),
  (24, .iconst 1, 1, 0, 0, 0, 0, 1, []),
  (25, .iadd, 1, 0, 0, 0, 0, 0, []),
  (26, .iaload, 1, 0, 0, 0, 0, 0, []),
  (27, .goto 4, 3, 31, 0, 0, 0, 0, []),
  (30, .iconst 0, 1, 0, 0, 0, 0, 0, []),
  (31, .istore_n 3, 1, 3, 0, 0, 0, 0, []),
  (32, .iconst 0, 1, 0, 0, 0, 0, 0, []),
  (33, .istore 4, 2, 4, 0, 0, 0, 0, []),
  (35, .iload 4, 2, 4, 0, 0, 0, 0, []),
  (37, .aload_n 0, 1, 0, 0, 0, 0, 0, []),
  (38, .iconst 0, 1, 0, 0, 0, 0, 0, []),
  (39, .iload_n 2, 1, 2, 0, 0, 0, 0, []),
  (40, .invokevirtual 237, 3, 170, 3, 3, 1, 9, [161]),
  (43, .if_icmp .ge 90, 3, 133, 0, 0, 0, 0, []),
  (46, .aload_n 0, 1, 0, 0, 0, 0, 0, []),
  (47, .iload_n 1, 1, 1, 0, 0, 0, 0, []),
  (48, .iload 4, 2, 4, 0, 0, 0, 0, []),
  (50, .invokevirtual 458, 3, 231, 3, 3, 1, 9, [206]),
  (53, .lstore 5, 2, 5, 0, 0, 0, 0, []),
  (55, .aload_n 0, 1, 0, 0, 0, 0, 0, []),
  (56, .iload_n 1, 1, 1, 0, 0, 0, 0, []),
  (57, .iload 4, 2, 4, 0, 0, 0, 0, []),
  (59, .invokevirtual 461, 3, 232, 3, 3, 1, 9, [207]),
  (62, .ifCond .ne 25, 3, 87, 0, 0, 0, 0, []),
  (65, .aload_n 0, 1, 0, 0, 0, 0, 0, []),
  (66, .getfield 92, 3, 9, 45, 3, 128000, 27, [151]),
  (69, .bipush 64, 2, 0, 0, 0, 0, 64, []),
  (71, .iload_n 1, 1, 1, 0, 0, 0, 0, []),
  (72, .imul, 1, 0, 0, 0, 0, 0, []),
  (73, .iload 4, 2, 4, 0, 0, 0, 0, []),
  (75, .iadd, 1, 0, 0, 0, 0, 0, []),
  (76, .aload_n 0, 1, 0, 0, 0, 0, 0, []),
  (77, .iconst 0, 1, 0, 0, 0, 0, 0, []),
  (78, .lload 5, 2, 5, 0, 0, 0, 0, []),
  (80, .invokevirtual 240, 3, 164, 3, 4, 1, 9, [162]),
  (83, .iastore, 1, 0, 0, 0, 0, 0, []),
  (84, .goto 43, 3, 127, 0, 0, 0, 0, []),
  (87, .aload_n 0, 1, 0, 0, 0, 0, 0, []),
  (88, .getfield 51, 3, 9, 17, 4, 2000, 14, [138]),
  (91, .iload_n 3, 1, 3, 0, 0, 0, 0, []),
  (92, .laload, 1, 0, 0, 0, 0, 0, []),
  (93, .lload 5, 2, 5, 0, 0, 0, 0, []),
  (95, .lcmp, 4, 105, 3, 0, 0, 0, []),
  (99, .iinc 3 1, 3, 3, 0, 0, 0, 1, []),
  (102, .goto (-15), 3, 87, 0, 0, 0, 0, []),
  (105, .aload_n 0, 1, 0, 0, 0, 0, 0, []),
  (106, .getfield 92, 3, 9, 45, 3, 128000, 27, [151]),
  (109, .bipush 64, 2, 0, 0, 0, 0, 64, []),
  (111, .iload_n 1, 1, 1, 0, 0, 0, 0, []),
  (112, .imul, 1, 0, 0, 0, 0, 0, []),
  (113, .iload 4, 2, 4, 0, 0, 0, 0, []),
  (115, .iadd, 1, 0, 0, 0, 0, 0, []),
  (116, .sipush 2000, 3, 0, 0, 0, 0, 2000, []),
  (119, .aload_n 0, 1, 0, 0, 0, 0, 0, []),
  (120, .getfield 88, 3, 9, 44, 3, 2000, 26, [150]),
  (123, .iload_n 3, 1, 3, 0, 0, 0, 0, []),
  (124, .iaload, 1, 0, 0, 0, 0, 0, []),
  (125, .iadd, 1, 0, 0, 0, 0, 0, []),
  (126, .iastore, 1, 0, 0, 0, 0, 0, []),
  (127, .iinc 4 1, 3, 4, 0, 0, 0, 1, []),
  (130, .goto (-95), 3, 35, 0, 0, 0, 0, []),
  (133, .return_, 1, 0, 0, 0, 0, 0, [])]
abbrev kMo_areLike : Nat := 235
def cMo_areLike : List xE := [(0, .iconst 0, 1, 0, 0, 0, 0, 0, []),
  (1, .istore_n 3, 1, 3, 0, 0, 0, 0, []),
  (2, .iload_n 3, 1, 3, 0, 0, 0, 0, []),
  (3, .aload_n 0, 1, 0, 0, 0, 0, 0, []),
  (4, .iconst 0, 1, 0, 0, 0, 0, 0, []),
  (5, .aload_n 0, 1, 0, 0, 0, 0, 0, []),
  (6, .getfield 48, 3, 9, 16, 3, 2000, 13, [137]),
  (9, .iload_n 1, 1, 1, 0, 0, 0, 0, []),
  (10, .iaload, 1, 0, 0, 0, 0, 0, []),
  (11, .invokevirtual 237, 3, 170, 3, 3, 1, 9, [161]),
  (14, .if_icmp .ge 36, 3, 50, 0, 0, 0, 0, []),
  (17, .aload_n 0, 1, 0, 0, 0, 0, 0, []),
  (18, .getfield 92, 3, 9, 45, 3, 128000, 27, [151]),
  (21, .bipush 64, 2, 0, 0, 0, 0, 64, []),
  (23, .iload_n 1, 1, 1, 0, 0, 0, 0, []),
  (24, .imul, 1, 0, 0, 0, 0, 0, []),
  (25, .iload_n 3, 1, 3, 0, 0, 0, 0, []),
  (26, .iadd, 1, 0, 0, 0, 0, 0, []),
  (27, .iaload, 1, 0, 0, 0, 0, 0, []),
  (28, .aload_n 0, 1, 0, 0, 0, 0, 0, []),
  (29, .getfield 92, 3, 9, 45, 3, 128000, 27, [151]),
  (32, .bipush 64, 2, 0, 0, 0, 0, 64, []),
  (34, .iload_n 2, 1, 2, 0, 0, 0, 0, []),
  (35, .imul, 1, 0, 0, 0, 0, 0, []),
  (36, .iload_n 3, 1, 3, 0, 0, 0, 0, []),
  (37, .iadd, 1, 0, 0, 0, 0, 0, []),
  (38, .iaload, 1, 0, 0, 0, 0, 0, []),
  (39, .if_icmp .eq 5, 3, 44, 0, 0, 0, 0, []),
  (42, .iconst 0, 1, 0, 0, 0, 0, 0, []),
  (43, .ireturn, 1, 1, 0, 0, 0, 0, []),
  (44, .iinc 3 1, 3, 3, 0, 0, 0, 1, []),
  (47, .goto (-45), 3, 2, 0, 0, 0, 0, []),
  (50, .iconst 1, 1, 0, 0, 0, 0, 1, []),
  (51, .ireturn, 1, 1, 0, 0, 0, 0, [])]
abbrev kMo_laysClasses : Nat := 236
def cMo_laysClasses : List xE := [(0, .aload_n 0, 1, 0, 0, 0, 0, 0, []),
  (1, .getfield 208, 3, 9, 19, 0, 1, 0, [159]),
  (4, .ifCond .eq 4, 3, 8, 0, 0, 0, 0, []),
  (7, .return_, 1, 0, 0, 0, 0, 0, []),
  (8, .aload_n 0, 1, 0, 0, 0, 0, 0, []),
  (9, .iconst 1, 1, 0, 0, 0, 0, 1, []),
  (10, .putfield 208, 3, 9, 19, 0, 1, 0, [159]),
  (13, .aload_n 0, 1, 0, 0, 0, 0, 0, []),
  (14, .getfield 33, 3, 9, 9, 3, 2, 8, [132]),
  (17, .iconst 0, 1, 0, 0, 0, 0, 0, []),
  (18, .iaload, 1, 0, 0, 0, 0, 0, []),
  (19, .iconst 1, 1, 0, 0, 0, 0, 1, []),
  (20, .isub, 1, 0, 0, 0, 0, 0, []),
  (21, .istore_n 1, 1, 1, 0, 0, 0, 0, []),
  (22, .iload_n 1, 1, 1, 0, 0, 0, 0, []),
  (23, .ifCond .lt 83, 3, 106, 0, 0, 0, 0, []),
  (26, .aload_n 0, 1, 0, 0, 0, 0, 0, []),
  (27, .getfield 54, 3, 9, 18, 3, 18, 15, [139]),
  (30, .iload_n 1, 1, 1, 0, 0, 0, 0, []),
  (31, .iaload, 1, 0, 0, 0, 0, 0, []),
  (32, .istore_n 2, 1, 2, 0, 0, 0, 0, []),
  (33, .iload_n 2, 1, 2, 0, 0, 0, 0, []),
  (34, .aload_n 0, 1, 0, 0, 0, 0, 0, []),
  (35, .getfield 54, 3, 9, 18, 3, 18, 15, [139]),
  (38, .iload_n 1, 1, 1, 0, 0, 0, 0, []),
  (39, .iconst 1, 1, 0, 0, 0, 0, 1, []),
  (40, .iadd, 1, 0, 0, 0, 0, 0, []),
  (41, .iaload, 1, 0, 0, 0, 0, 0, []),
  (42, .if_icmp .ge 58, 3, 100, 0, 0, 0, 0, []),
  (45, .aload_n 0, 1, 0, 0, 0, 0, 0, []),
  (46, .iload_n 2, 1, 2, 0, 0, 0, 0, []),
  (47, .invokevirtual 464, 3, 234, 2, 7, 0, 9, [208]),
  (50, .aload_n 0, 1, 0, 0, 0, 0, 0, []),
  (51, .getfield 54, 3, 9, 18, 3, 18, 15, [139]),
  (54, .iload_n 1, 1, 1, 0, 0, 0, 0, []),
  (55, .iaload, 1, 0, 0, 0, 0, 0, []),
  (56, .istore_n 3, 1, 3, 0, 0, 0, 0, []),
  (57, .iload_n 3, 1, 3, 0, 0, 0, 0, []),
  (58, .iload_n 2, 1, 2, 0, 0, 0, 0, []),
  (59, .if_icmp .ge 28, 3, 87, 0, 0, 0, 0, []),
  (62, .aload_n 0, 1, 0, 0, 0, 0, 0, []),
  (63, .getfield 88, 3, 9, 44, 3, 2000, 26, [150]),
  (66, .iload_n 3, 1, 3, 0, 0, 0, 0, []),
  (67, .iaload, 1, 0, 0, 0, 0, 0, []),
  (68, .iload_n 3, 1, 3, 0, 0, 0, 0, []),
  (69, .if_icmp .ne 12, 3, 81, 0, 0, 0, 0, []),
  (72, .aload_n 0, 1, 0, 0, 0, 0, 0, []),
  (73, .iload_n 3, 1, 3, 0, 0, 0, 0, []),
  (74, .iload_n 2, 1, 2, 0, 0, 0, 0, []),
  (75, .invokevirtual 467, 3, 235, 3, 4, 1, 9, [209]),
  (78, .ifCond .ne 9, 3, 87, 0, 0, 0, 0, []),
  (81, .iinc 3 1, 3, 3, 0, 0, 0, 1, []),
  (84, .goto (-27), 3, 57, 0, 0, 0, 0, []),
  (87, .aload_n 0, 1, 0, 0, 0, 0, 0, []),
  (88, .getfield 88, 3, 9, 44, 3, 2000, 26, [150]),
  (91, .iload_n 2, 1, 2, 0, 0, 0, 0, []),
  (92, .iload_n 3, 1, 3, 0, 0, 0, 0, []),
  (93, .iastore, 1, 0, 0, 0, 0, 0, []),
  (94, .iinc 2 1, 3, 2, 0, 0, 0, 1, []),
  (97, .goto (-64), 3, 33, 0, 0, 0, 0, []),
  (100, .iinc 1 (-1), 3, 1, 0, 0, 0, (-1), []),
  (103, .goto (-81), 3, 22, 0, 0, 0, 0, []),
  (106, .return_, 1, 0, 0, 0, 0, 0, [])]
abbrev kMo_alike : Nat := 237
def cMo_alike : List xE := [(0, .aload_n 0, 1, 0, 0, 0, 0, 0, []),
  (1, .iload_n 1, 1, 1, 0, 0, 0, 0, []),
  (2, .invokevirtual 447, 3, 226, 2, 2, 1, 9, [203]),
  (5, .ifCond .eq 26, 3, 31, 0, 0, 0, 0, []),
  (8, .aload_n 0, 1, 0, 0, 0, 0, 0, []),
  (9, .iload_n 2, 1, 2, 0, 0, 0, 0, []),
  (10, .invokevirtual 447, 3, 226, 2, 2, 1, 9, [203]),
  (13, .ifCond .eq 18, 3, 31, 0, 0, 0, 0, []),
  (16, .aload_n 0, 1, 0, 0, 0, 0, 0, []),
  (17, .getfield 48, 3, 9, 16, 3, 2000, 13, [137]),
  (20, .iload_n 1, 1, 1, 0, 0, 0, 0, []),
  (21, .iaload, 1, 0, 0, 0, 0, 0, []),
  (22, .aload_n 0, 1, 0, 0, 0, 0, 0, []),
  (23, .getfield 48, 3, 9, 16, 3, 2000, 13, [137]),
  (26, .iload_n 2, 1, 2, 0, 0, 0, 0, []),
  (27, .iaload, 1, 0, 0, 0, 0, 0, []),
  (28, .if_icmp .eq 5, 3, 33, 0, 0, 0, 0, []),
  (31, .iconst (-1), 1, 0, 0, 0, 0, (-1), []),
  (32, .ireturn, 1, 0, 0, 0, 0, 0, []),
  (33, .aload_n 0, 1, 0, 0, 0, 0, 0, []),
  (34, .invokevirtual 470, 3, 236, 1, 4, 0, 9, [210]),
  (37, .aload_n 0, 1, 0, 0, 0, 0, 0, []),
  (38, .getfield 88, 3, 9, 44, 3, 2000, 26, [150]),
  (41, .iload_n 1, 1, 1, 0, 0, 0, 0, []),
  (42, .iaload, 1, 0, 0, 0, 0, 0, []),
  (43, .aload_n 0, 1, 0, 0, 0, 0, 0, []),
  (44, .getfield 88, 3, 9, 44, 3, 2000, 26, [150]),
  (47, .iload_n 2, 1, 2, 0, 0, 0, 0, []),
  (48, .iaload, 1, 0, 0, 0, 0, 0, []),
  (49, .if_icmp .ne 7, 3, 56, 0, 0, 0, 0, []),
  (52, .iconst 1, 1, 0, 0, 0, 0, 1, []),
  (53, .goto 4, 3, 57, 0, 0, 0, 0, []),
  (56, .iconst 0, 1, 0, 0, 0, 0, 0, []),
  (57, .ireturn, 1, 0, 0, 0, 0, 0, [])]
abbrev kMo_storedAt : Nat := 238
def cMo_storedAt : List xE := [(0, .iconst 0, 1, 0, 0, 0, 0, 0, []),
  (1, .istore_n 2, 1, 2, 0, 0, 0, 0, []),
  (2, .aload_n 0, 1, 0, 0, 0, 0, 0, []),
  (3, .getfield 54, 3, 9, 18, 3, 18, 15, [139]),
  (6, .iload_n 1, 1, 1, 0, 0, 0, 0, []),
  (7, .iaload, 1, 0, 0, 0, 0, 0, []),
  (8, .istore_n 3, 1, 3, 0, 0, 0, 0, []),
  (9, .iload_n 3, 1, 3, 0, 0, 0, 0, []),
  (10, .aload_n 0, 1, 0, 0, 0, 0, 0, []),
  (11, .getfield 54, 3, 9, 18, 3, 18, 15, [139]),
  (14, .iload_n 1, 1, 1, 0, 0, 0, 0, []),
  (15, .iconst 1, 1, 0, 0, 0, 0, 1, []),
  (16, .iadd, 1, 0, 0, 0, 0, 0, []),
  (17, .iaload, 1, 0, 0, 0, 0, 0, []),
  (18, .if_icmp .ge 28, 3, 46, 0, 0, 0, 0, []),
  (21, .aload_n 0, 1, 0, 0, 0, 0, 0, []),
  (22, .iconst 0, 1, 0, 0, 0, 0, 0, []),
  (23, .iload_n 1, 1, 1, 0, 0, 0, 0, []),
  (24, .aload_n 0, 1, 0, 0, 0, 0, 0, []),
  (25, .getfield 51, 3, 9, 17, 4, 2000, 14, [138]),
  (28, .iload_n 3, 1, 3, 0, 0, 0, 0, []),
  (29, .laload, 1, 0, 0, 0, 0, 0, []),
  (30, .invokevirtual 243, 3, 172, 4, 11, 0, 9, [163]),
  (33, .iload_n 2, 1, 2, 0, 0, 0, 0, []),
  (34, .aload_n 0, 1, 0, 0, 0, 0, 0, []),
  (35, .getfield 231, 3, 9, 22, 0, 0, 0, [162]),
  (38, .iadd, 1, 0, 0, 0, 0, 0, []),
  (39, .istore_n 2, 1, 2, 0, 0, 0, 0, []),
  (40, .iinc 3 1, 3, 3, 0, 0, 0, 1, []),
  (43, .goto (-34), 3, 9, 0, 0, 0, 0, []),
  (46, .iload_n 2, 1, 2, 0, 0, 0, 0, []),
  (47, .ireturn, 1, 0, 0, 0, 0, 0, [])]
abbrev kMo_unlikeAt : Nat := 239
def cMo_unlikeAt : List xE := [(0, .aload_n 0, 1, 0, 0, 0, 0, 0, []),
  (1, .invokevirtual 470, 3, 236, 1, 4, 0, 9, [210]),
  (4, .iconst 0, 1, 0, 0, 0, 0, 0, []),
  (5, .istore_n 2, 1, 2, 0, 0, 0, 0, []),
  (6, .aload_n 0, 1, 0, 0, 0, 0, 0, []),
  (7, .getfield 54, 3, 9, 18, 3, 18, 15, [139]),
  (10, .iload_n 1, 1, 1, 0, 0, 0, 0, []),
  (11, .iaload, 1, 0, 0, 0, 0, 0, []),
  (12, .istore_n 3, 1, 3, 0, 0, 0, 0, []),
  (13, .iload_n 3, 1, 3, 0, 0, 0, 0, []),
  (14, .aload_n 0, 1, 0, 0, 0, 0, 0, []),
  (15, .getfield 54, 3, 9, 18, 3, 18, 15, [139]),
  (18, .iload_n 1, 1, 1, 0, 0, 0, 0, []),
  (19, .iconst 1, 1, 0, 0, 0, 0, 1, []),
  (20, .iadd, 1, 0, 0, 0, 0, 0, []),
  (21, .iaload, 1, 0, 0, 0, 0, 0, []),
  (22, .if_icmp .ge 27, 3, 49, 0, 0, 0, 0, []),
  (25, .iload_n 2, 1, 2, 0, 0, 0, 0, []),
  (26, .aload_n 0, 1, 0, 0, 0, 0, 0, []),
  (27, .getfield 88, 3, 9, 44, 3, 2000, 26, [150]),
  (30, .iload_n 3, 1, 3, 0, 0, 0, 0, []),
  (31, .iaload, 1, 0, 0, 0, 0, 0, []),
  (32, .iload_n 3, 1, 3, 0, 0, 0, 0, []),
  (33, .if_icmp .ne 7, 3, 40, 0, 0, 0, 0, []),
  (36, .iconst 1, 1, 0, 0, 0, 0, 1, []),
  (37, .goto 4, 3, 41, 0, 0, 0, 0, []),
  (40, .iconst 0, 1, 0, 0, 0, 0, 0, []),
  (41, .iadd, 1, 0, 0, 0, 0, 0, []),
  (42, .istore_n 2, 1, 2, 0, 0, 0, 0, []),
  (43, .iinc 3 1, 3, 3, 0, 0, 0, 1, []),
  (46, .goto (-33), 3, 13, 0, 0, 0, 0, []),
  (49, .iload_n 2, 1, 2, 0, 0, 0, 0, []),
  (50, .ireturn, 1, 0, 0, 0, 0, 0, [])]
abbrev kMo_level : Nat := 240
def cMo_level : List xE := [(0, .iload_n 1, 1, 1, 0, 0, 0, 0, []),
  (1, .i2l, 1, 0, 0, 0, 0, 0, []),
  (2, .lconst 0, 1, 0, 0, 0, 0, 0, []),
  (3, .aload_n 0, 1, 0, 0, 0, 0, 0, []),
  (4, .getfield 33, 3, 9, 9, 3, 2, 8, [132]),
  (7, .iconst 0, 1, 0, 0, 0, 0, 0, []),
  (8, .iaload, 1, 0, 0, 0, 0, 0, []),
  (9, .iconst 1, 1, 0, 0, 0, 0, 1, []),
  (10, .isub, 1, 0, 0, 0, 0, 0, []),
  (11, .i2l, 1, 0, 0, 0, 0, 0, []),
  (12, .invokestatic 121, 3, 138, 3, 6, 1, 0, [137]),
  (15, .ifCond .ne 5, 3, 20, 0, 0, 0, 0, []),
  (18, .iconst (-1), 1, 0, 0, 0, 0, (-1), []),
  (19, .ireturn, 1, 0, 0, 0, 0, 0, []),
  (20, .iload_n 2, 1, 2, 0, 0, 0, 0, []),
  (21, .tableswitch 70 0 3 #[31, 42, 58, 64], 31, 91, 0, 0, 0, 0, [52, 63, 79, 85]),
  (52, .aload_n 0, 1, 0, 0, 0, 0, 0, []),
  (53, .getfield 7, 3, 9, 0, 3, 259, 1, [125]),
  (56, .sipush 243, 3, 0, 0, 0, 0, 243, []),
  (59, .iload_n 1, 1, 1, 0, 0, 0, 0, []),
  (60, .iadd, 1, 0, 0, 0, 0, 0, []),
  (61, .iaload, 1, 0, 0, 0, 0, 0, []),
  (62, .ireturn, 1, 0, 0, 0, 0, 0, []),
  (63, .aload_n 0, 1, 0, 0, 0, 0, 0, []),
  (64, .getfield 54, 3, 9, 18, 3, 18, 15, [139]),
  (67, .iload_n 1, 1, 1, 0, 0, 0, 0, []),
  (68, .iconst 1, 1, 0, 0, 0, 0, 1, []),
  (69, .iadd, 1, 0, 0, 0, 0, 0, []),
  (70, .iaload, 1, 0, 0, 0, 0, 0, []),
  (71, .aload_n 0, 1, 0, 0, 0, 0, 0, []),
  (72, .getfield 54, 3, 9, 18, 3, 18, 15, [139]),
  (75, .iload_n 1, 1, 1, 0, 0, 0, 0, []),
  (76, .iaload, 1, 0, 0, 0, 0, 0, []),
  (77, .isub, 1, 0, 0, 0, 0, 0, []),
  (78, .ireturn, 1, 0, 0, 0, 0, 0, []),
  (79, .aload_n 0, 1, 0, 0, 0, 0, 0, []),
  (80, .iload_n 1, 1, 1, 0, 0, 0, 0, []),
  (81, .invokevirtual 473, 3, 238, 2, 4, 1, 9, [211]),
  (84, .ireturn, 1, 0, 0, 0, 0, 0, []),
  (85, .aload_n 0, 1, 0, 0, 0, 0, 0, []),
  (86, .iload_n 1, 1, 1, 0, 0, 0, 0, []),
  (87, .invokevirtual 476, 3, 239, 2, 4, 1, 9, [212]),
  (90, .ireturn, 1, 0, 0, 0, 0, 0, []),
  (91, .iconst (-1), 1, 0, 0, 0, 0, (-1), []),
  (92, .ireturn, 1, 0, 0, 0, 0, 0, [])]
abbrev kMo_span : Nat := 241
def cMo_span : List xE := [(0, .iload_n 1, 1, 1, 0, 0, 0, 0, []),
  (1, .i2l, 1, 0, 0, 0, 0, 0, []),
  (2, .lconst 0, 1, 0, 0, 0, 0, 0, []),
  (3, .aload_n 0, 1, 0, 0, 0, 0, 0, []),
  (4, .getfield 23, 3, 9, 6, 3, 2, 5, [129]),
  (7, .iconst 0, 1, 0, 0, 0, 0, 0, []),
  (8, .iaload, 1, 0, 0, 0, 0, 0, []),
  (9, .iconst 1, 1, 0, 0, 0, 0, 1, []),
  (10, .isub, 1, 0, 0, 0, 0, 0, []),
  (11, .i2l, 1, 0, 0, 0, 0, 0, []),
  (12, .invokestatic 121, 3, 138, 3, 6, 1, 0, [137]),
  (15, .ifCond .eq 15, 3, 30, 0, 0, 0, 0, []),
  (18, .iload_n 2, 1, 2, 0, 0, 0, 0, []),
  (19, .i2l, 1, 0, 0, 0, 0, 0, []),
  (20, .lconst 0, 1, 0, 0, 0, 0, 0, []),
  (21, .ldc2_w 321, 3, 0, 0, 0, 0, 2, [24]),
  (24, .invokestatic 121, 3, 138, 3, 6, 1, 0, [137]),
  (27, .ifCond .ne 7, 3, 34, 0, 0, 0, 0, []),
  (30, .ldc2_w 316, 3, 0, 0, 0, 0, (-2), [23]),
  (33, .lreturn, 1, 0, 0, 0, 0, 0, []),
  (34, .iload_n 2, 1, 2, 0, 0, 0, 0, []),
  (35, .ifCond .ne 12, 3, 47, 0, 0, 0, 0, []),
  (38, .aload_n 0, 1, 0, 0, 0, 0, 0, []),
  (39, .getfield 26, 3, 9, 7, 4, 248, 6, [130]),
  (42, .iload_n 1, 1, 1, 0, 0, 0, 0, []),
  (43, .laload, 1, 0, 0, 0, 0, 0, []),
  (44, .goto 30, 3, 74, 0, 0, 0, 0, []),
  (47, .iload_n 2, 1, 2, 0, 0, 0, 0, []),
  (48, .iconst 1, 1, 0, 0, 0, 0, 1, []),
  (49, .if_icmp .ne 14, 3, 63, 0, 0, 0, 0, []),
  (52, .aload_n 0, 1, 0, 0, 0, 0, 0, []),
  (53, .iconst 0, 1, 0, 0, 0, 0, 0, []),
  (54, .iload_n 1, 1, 1, 0, 0, 0, 0, []),
  (55, .invokevirtual 201, 3, 161, 3, 3, 1, 9, [156]),
  (58, .lconst 1, 1, 0, 0, 0, 0, 1, []),
  (59, .lsub, 1, 0, 0, 0, 0, 0, []),
  (60, .goto 14, 3, 74, 0, 0, 0, 0, []),
  (63, .aload_n 0, 1, 0, 0, 0, 0, 0, []),
  (64, .aload_n 0, 1, 0, 0, 0, 0, 0, []),
  (65, .getfield 30, 3, 9, 8, 3, 248, 7, [131]),
  (68, .iload_n 1, 1, 1, 0, 0, 0, 0, []),
  (69, .iaload, 1, 0, 0, 0, 0, 0, []),
  (70, .invokevirtual 455, 3, 229, 2, 2, 1, 9, [205]),
  (73, .i2l, 1, 0, 0, 0, 0, 0, []),
  (74, .lreturn, 1, 0, 0, 0, 0, 0, [])]
abbrev kMo_steps : Nat := 242
def cMo_steps : List xE := [(0, .lconst 0, 1, 0, 0, 0, 0, 0, []),
  (1, .lstore_n 1, 1, 1, 0, 0, 0, 0, []),
  (2, .iconst 0, 1, 0, 0, 0, 0, 0, []),
  (3, .istore_n 3, 1, 3, 0, 0, 0, 0, []),
  (4, .iload_n 3, 1, 3, 0, 0, 0, 0, []),
  (5, .aload_n 0, 1, 0, 0, 0, 0, 0, []),
  (6, .getfield 205, 3, 9, 15, 0, 0, 0, [158]),
  (9, .if_icmp .ge 26, 3, 35, 0, 0, 0, 0, []),
  (12, .lload_n 1, 1, 1, 0, 0, 0, 0, []),
  (13, .aload_n 0, 1, 0, 0, 0, 0, 0, []),
  (14, .iconst 0, 1, 0, 0, 0, 0, 0, []),
  (15, .aload_n 0, 1, 0, 0, 0, 0, 0, []),
  (16, .getfield 48, 3, 9, 16, 3, 2000, 13, [137]),
  (19, .iload_n 3, 1, 3, 0, 0, 0, 0, []),
  (20, .iaload, 1, 0, 0, 0, 0, 0, []),
  (21, .invokevirtual 216, 3, 165, 3, 3, 1, 9, [158]),
  (24, .invokestatic 129, 3, 141, 1, 1, 1, 0, [139]),
  (27, .ladd, 1, 0, 0, 0, 0, 0, []),
  (28, .lstore_n 1, 1, 1, 0, 0, 0, 0, []),
  (29, .iinc 3 1, 3, 3, 0, 0, 0, 1, []),
  (32, .goto (-28), 3, 4, 0, 0, 0, 0, []),
  (35, .lload_n 1, 1, 1, 0, 0, 0, 0, []),
  (36, .l2d, 1, 0, 0, 0, 0, 0, []),
  (37, .ldc2_w 479, 3, 1, 0, 0, 0, 4751297606875873280, [41]),
  (40, .ddiv, 1, 0, 0, 0, 0, 0, []),
  (41, .invokestatic 481, 3, 9003, 0, 0, 0, 0, []),
  (44, .lreturn, 1, 0, 0, 0, 0, 0, [])]
abbrev kMo_ownSet : Nat := 243
def cMo_ownSet : List xE := [(0, .lconst 1, 1, 0, 0, 0, 0, 1, []),
  (1, .aload_n 0, 1, 0, 0, 0, 0, 0, []),
  (2, .lload_n 1, 1, 1, 0, 0, 0, 0, []),
  (3, .invokevirtual 421, 3, 209, 2, 4, 1, 9, [195]),
  (6, .iconst 1, 1, 0, 0, 0, 0, 1, []),
  (7, .iadd, 1, 0, 0, 0, 0, 0, []),
  (8, .lshl, 1, 0, 0, 0, 0, 0, []),
  (9, .lreturn, 1, 0, 0, 0, 0, 0, [])]
abbrev kMo_setOf : Nat := 244
def cMo_setOf : List xE := [(0, .aload_n 0, 1, 0, 0, 0, 0, 0, []),
  (1, .iconst 0, 1, 0, 0, 0, 0, 0, []),
  (2, .lload_n 1, 1, 1, 0, 0, 0, 0, []),
  (3, .iload_n 3, 1, 3, 0, 0, 0, 0, []),
  (4, .invokestatic 129, 3, 141, 1, 1, 1, 0, [139]),
  (7, .invokevirtual 220, 3, 163, 4, 6, 1, 9, [159]),
  (10, .ifCond .eq 9, 3, 19, 0, 0, 0, 0, []),
  (13, .aload_n 0, 1, 0, 0, 0, 0, 0, []),
  (14, .lload_n 1, 1, 1, 0, 0, 0, 0, []),
  (15, .invokevirtual 487, 3, 243, 2, 3, 1, 9, [213]),
  (18, .lreturn, 1, 0, 0, 0, 0, 0, []),
  (19, .aload_n 0, 1, 0, 0, 0, 0, 0, []),
  (20, .lload_n 1, 1, 1, 0, 0, 0, 0, []),
  (21, .iload_n 3, 1, 3, 0, 0, 0, 0, []),
  (22, .iconst 1, 1, 0, 0, 0, 0, 1, []),
  (23, .iadd, 1, 0, 0, 0, 0, 0, []),
  (24, .invokevirtual 491, 3, 244, 3, 8, 1, 9, [214]),
  (27, .lstore 4, 2, 4, 0, 0, 0, 0, []),
  (29, .aload_n 0, 1, 0, 0, 0, 0, 0, []),
  (30, .lload_n 1, 1, 1, 0, 0, 0, 0, []),
  (31, .iload_n 3, 1, 3, 0, 0, 0, 0, []),
  (32, .iconst 1, 1, 0, 0, 0, 0, 1, []),
  (33, .iadd, 1, 0, 0, 0, 0, 0, []),
  (34, .invokestatic 129, 3, 141, 1, 1, 1, 0, [139]),
  (37, .ladd, 1, 0, 0, 0, 0, 0, []),
  (38, .iload_n 3, 1, 3, 0, 0, 0, 0, []),
  (39, .iconst 1, 1, 0, 0, 0, 0, 1, []),
  (40, .iadd, 1, 0, 0, 0, 0, 0, []),
  (41, .invokevirtual 491, 3, 244, 3, 8, 1, 9, [214]),
  (44, .lstore 6, 2, 6, 0, 0, 0, 0, []),
  (46, .lload 4, 2, 4, 0, 0, 0, 0, []),
  (48, .lload 6, 2, 6, 0, 0, 0, 0, []),
  (50, .land, 1, 0, 0, 0, 0, 0, []),
  (51, .lconst 0, 1, 0, 0, 0, 0, 0, []),
  (52, .lcmp, 4, 64, 0, 0, 0, 0, []),
  (56, .lload 4, 2, 4, 0, 0, 0, 0, []),
  (58, .lload 6, 2, 6, 0, 0, 0, 0, []),
  (60, .land, 1, 0, 0, 0, 0, 0, []),
  (61, .goto 8, 3, 69, 0, 0, 0, 0, []),
  (64, .lload 4, 2, 4, 0, 0, 0, 0, []),
  (66, .lload 6, 2, 6, 0, 0, 0, 0, []),
  (68, .lor, 1, 0, 0, 0, 0, 0, []),
  (69, .lreturn, 1, 0, 0, 0, 0, 0, [])]
abbrev kMo_leastOf : Nat := 245
def cMo_leastOf : List xE := [(0, .iconst 0, 1, 0, 0, 0, 0, 0, []),
  (1, .istore_n 2, 1, 2, 0, 0, 0, 0, []),
  (2, .lload_n 0, 1, 0, 0, 0, 0, 0, []),
  (3, .iload_n 2, 1, 2, 0, 0, 0, 0, []),
  (4, .lshr, 1, 0, 0, 0, 0, 0, []),
  (5, .lconst 1, 1, 0, 0, 0, 0, 1, []),
  (6, .land, 1, 0, 0, 0, 0, 0, []),
  (7, .lconst 0, 1, 0, 0, 0, 0, 0, []),
  (8, .lcmp, 4, 18, 1, 0, 0, 0, []),
  (12, .iinc 2 1, 3, 2, 0, 0, 0, 1, []),
  (15, .goto (-13), 3, 2, 0, 0, 0, 0, []),
  (18, .iload_n 2, 1, 2, 0, 0, 0, 0, []),
  (19, .iconst 1, 1, 0, 0, 0, 0, 1, []),
  (20, .isub, 1, 0, 0, 0, 0, 0, []),
  (21, .ireturn, 1, 0, 0, 0, 0, 0, [])]
abbrev kMo_hands : Nat := 246
def cMo_hands : List xE := [(0, .aload_n 0, 1, 0, 0, 0, 0, 0, []),
  (1, .lload_n 1, 1, 1, 0, 0, 0, 0, []),
  (2, .iload_n 3, 1, 3, 0, 0, 0, 0, []),
  (3, .invokevirtual 491, 3, 244, 3, 8, 1, 9, [214]),
  (6, .lstore 5, 2, 5, 0, 0, 0, 0, []),
  (8, .iload 4, 2, 4, 0, 0, 0, 0, []),
  (10, .istore 7, 2, 7, 0, 0, 0, 0, []),
  (12, .lload 5, 2, 5, 0, 0, 0, 0, []),
  (14, .iload 4, 2, 4, 0, 0, 0, 0, []),
  (16, .iconst 1, 1, 0, 0, 0, 0, 1, []),
  (17, .iadd, 1, 0, 0, 0, 0, 0, []),
  (18, .lshr, 1, 0, 0, 0, 0, 0, []),
  (19, .lconst 1, 1, 0, 0, 0, 0, 1, []),
  (20, .land, 1, 0, 0, 0, 0, 0, []),
  (21, .lconst 0, 1, 0, 0, 0, 0, 0, []),
  (22, .lcmp, 4, 74, 1, 0, 0, 0, []),
  (26, .lload 5, 2, 5, 0, 0, 0, 0, []),
  (28, .invokestatic 495, 3, 245, 1, 3, 1, 0, [215]),
  (31, .istore 7, 2, 7, 0, 0, 0, 0, []),
  (33, .aload_n 0, 1, 0, 0, 0, 0, 0, []),
  (34, .getfield 95, 3, 9, 47, 4, 128, 28, [152]),
  (37, .aload_n 0, 1, 0, 0, 0, 0, 0, []),
  (38, .getfield 498, 3, 9, 46, 0, 0, 0, [176]),
  (41, .lload_n 1, 1, 1, 0, 0, 0, 0, []),
  (42, .lastore, 1, 0, 0, 0, 0, 0, []),
  (43, .aload_n 0, 1, 0, 0, 0, 0, 0, []),
  (44, .getfield 98, 3, 9, 48, 3, 128, 29, [153]),
  (47, .aload_n 0, 1, 0, 0, 0, 0, 0, []),
  (48, .getfield 498, 3, 9, 46, 0, 0, 0, [176]),
  (51, .iload_n 3, 1, 3, 0, 0, 0, 0, []),
  (52, .iastore, 1, 0, 0, 0, 0, 0, []),
  (53, .aload_n 0, 1, 0, 0, 0, 0, 0, []),
  (54, .getfield 101, 3, 9, 49, 3, 128, 30, [154]),
  (57, .aload_n 0, 1, 0, 0, 0, 0, 0, []),
  (58, .getfield 498, 3, 9, 46, 0, 0, 0, [176]),
  (61, .iload 7, 2, 7, 0, 0, 0, 0, []),
  (63, .iastore, 1, 0, 0, 0, 0, 0, []),
  (64, .aload_n 0, 1, 0, 0, 0, 0, 0, []),
  (65, .dup, 1, 0, 0, 0, 0, 0, []),
  (66, .getfield 498, 3, 9, 46, 0, 0, 0, [176]),
  (69, .iconst 1, 1, 0, 0, 0, 0, 1, []),
  (70, .iadd, 1, 0, 0, 0, 0, 0, []),
  (71, .putfield 498, 3, 9, 46, 0, 0, 0, [176]),
  (74, .aload_n 0, 1, 0, 0, 0, 0, 0, []),
  (75, .iconst 0, 1, 0, 0, 0, 0, 0, []),
  (76, .lload_n 1, 1, 1, 0, 0, 0, 0, []),
  (77, .iload_n 3, 1, 3, 0, 0, 0, 0, []),
  (78, .invokestatic 129, 3, 141, 1, 1, 1, 0, [139]),
  (81, .invokevirtual 220, 3, 163, 4, 6, 1, 9, [159]),
  (84, .ifCond .eq 4, 3, 88, 0, 0, 0, 0, []),
  (87, .return_, 1, 0, 0, 0, 0, 0, []),
  (88, .aload_n 0, 1, 0, 0, 0, 0, 0, []),
  (89, .lload_n 1, 1, 1, 0, 0, 0, 0, []),
  (90, .iload_n 3, 1, 3, 0, 0, 0, 0, []),
  (91, .iconst 1, 1, 0, 0, 0, 0, 1, []),
  (92, .iadd, 1, 0, 0, 0, 0, 0, []),
  (93, .iload 7, 2, 7, 0, 0, 0, 0, []),
  (95, .invokevirtual 501, 3, 246, 4, 8, 0, 9, [216]),
  (98, .aload_n 0, 1, 0, 0, 0, 0, 0, []),
  (99, .lload_n 1, 1, 1, 0, 0, 0, 0, []),
  (100, .iload_n 3, 1, 3, 0, 0, 0, 0, []),
  (101, .iconst 1, 1, 0, 0, 0, 0, 1, []),
  (102, .iadd, 1, 0, 0, 0, 0, 0, []),
  (103, .invokestatic 129, 3, 141, 1, 1, 1, 0, [139]),
  (106, .ladd, 1, 0, 0, 0, 0, 0, []),
  (107, .iload_n 3, 1, 3, 0, 0, 0, 0, []),
  (108, .iconst 1, 1, 0, 0, 0, 0, 1, []),
  (109, .iadd, 1, 0, 0, 0, 0, 0, []),
  (110, .iload 7, 2, 7, 0, 0, 0, 0, []),
  (112, .invokevirtual 501, 3, 246, 4, 8, 0, 9, [216]),
  (115, .return_, 1, 0, 0, 0, 0, 0, [])]
abbrev kMo_laysFewest : Nat := 247
def cMo_laysFewest : List xE := [(0, .aload_n 0, 1, 0, 0, 0, 0, 0, []),
  (1, .iconst 0, 1, 0, 0, 0, 0, 0, []),
  (2, .putfield 498, 3, 9, 46, 0, 0, 0, [176]),
  (5, .aload_n 0, 1, 0, 0, 0, 0, 0, []),
  (6, .lconst 0, 1, 0, 0, 0, 0, 0, []),
  (7, .iconst 0, 1, 0, 0, 0, 0, 0, []),
  (8, .iconst (-1), 1, 0, 0, 0, 0, (-1), []),
  (9, .invokevirtual 501, 3, 246, 4, 8, 0, 9, [216]),
  (12, .return_, 1, 0, 0, 0, 0, 0, [])]
abbrev kMo_fewest : Nat := 248
def cMo_fewest : List xE := [(0, .iload_n 2, 1, 2, 0, 0, 0, 0, []),
  (1, .i2l, 1, 0, 0, 0, 0, 0, []),
  (2, .lconst 0, 1, 0, 0, 0, 0, 0, []),
  (3, .ldc2_w 321, 3, 0, 0, 0, 0, 2, [24]),
  (6, .invokestatic 121, 3, 138, 3, 6, 1, 0, [137]),
  (9, .ifCond .ne 7, 3, 16, 0, 0, 0, 0, []),
  (12, .ldc2_w 316, 3, 0, 0, 0, 0, (-2), [23]),
  (15, .lreturn, 1, 0, 0, 0, 0, 0, []),
  (16, .aload_n 0, 1, 0, 0, 0, 0, 0, []),
  (17, .invokevirtual 505, 3, 247, 1, 1, 0, 9, [217]),
  (20, .iload_n 1, 1, 1, 0, 0, 0, 0, []),
  (21, .iconst (-1), 1, 0, 0, 0, 0, (-1), []),
  (22, .if_icmp .ne 19, 3, 41, 0, 0, 0, 0, []),
  (25, .iload_n 2, 1, 2, 0, 0, 0, 0, []),
  (26, .ifCond .ne 11, 3, 37, 0, 0, 0, 0, []),
  (29, .aload_n 0, 1, 0, 0, 0, 0, 0, []),
  (30, .getfield 498, 3, 9, 46, 0, 0, 0, [176]),
  (33, .i2l, 1, 0, 0, 0, 0, 0, []),
  (34, .goto 6, 3, 40, 0, 0, 0, 0, []),
  (37, .ldc2_w 316, 3, 0, 0, 0, 0, (-2), [23]),
  (40, .lreturn, 1, 0, 0, 0, 0, 0, []),
  (41, .iload_n 1, 1, 1, 0, 0, 0, 0, []),
  (42, .i2l, 1, 0, 0, 0, 0, 0, []),
  (43, .lconst 0, 1, 0, 0, 0, 0, 0, []),
  (44, .aload_n 0, 1, 0, 0, 0, 0, 0, []),
  (45, .getfield 498, 3, 9, 46, 0, 0, 0, [176]),
  (48, .iconst 1, 1, 0, 0, 0, 0, 1, []),
  (49, .isub, 1, 0, 0, 0, 0, 0, []),
  (50, .i2l, 1, 0, 0, 0, 0, 0, []),
  (51, .invokestatic 121, 3, 138, 3, 6, 1, 0, [137]),
  (54, .ifCond .ne 7, 3, 61, 0, 0, 0, 0, []),
  (57, .ldc2_w 316, 3, 0, 0, 0, 0, (-2), [23]),
  (60, .lreturn, 1, 0, 0, 0, 0, 0, []),
  (61, .iload_n 2, 1, 2, 0, 0, 0, 0, []),
  (62, .ifCond .ne 13, 3, 75, 0, 0, 0, 0, []),
  (65, .aload_n 0, 1, 0, 0, 0, 0, 0, []),
  (66, .getfield 98, 3, 9, 48, 3, 128, 29, [153]),
  (69, .iload_n 1, 1, 1, 0, 0, 0, 0, []),
  (70, .iaload, 1, 0, 0, 0, 0, 0, []),
  (71, .i2l, 1, 0, 0, 0, 0, 0, []),
  (72, .goto 24, 3, 96, 0, 0, 0, 0, []),
  (75, .iload_n 2, 1, 2, 0, 0, 0, 0, []),
  (76, .iconst 1, 1, 0, 0, 0, 0, 1, []),
  (77, .if_icmp .ne 12, 3, 89, 0, 0, 0, 0, []),
  (80, .aload_n 0, 1, 0, 0, 0, 0, 0, []),
  (81, .getfield 95, 3, 9, 47, 4, 128, 28, [152]),
  (84, .iload_n 1, 1, 1, 0, 0, 0, 0, []),
  (85, .laload, 1, 0, 0, 0, 0, 0, []),
  (86, .goto 10, 3, 96, 0, 0, 0, 0, []),
  (89, .aload_n 0, 1, 0, 0, 0, 0, 0, []),
  (90, .getfield 101, 3, 9, 49, 3, 128, 30, [154]),
  (93, .iload_n 1, 1, 1, 0, 0, 0, 0, []),
  (94, .iaload, 1, 0, 0, 0, 0, 0, []),
  (95, .i2l, 1, 0, 0, 0, 0, 0, []),
  (96, .lreturn, 1, 0, 0, 0, 0, 0, [])]
abbrev kMo_areFewest : Nat := 249
def cMo_areFewest : List xE := [(0, .aload_n 0, 1, 0, 0, 0, 0, 0, []),
  (1, .getfield 498, 3, 9, 46, 0, 0, 0, [176]),
  (4, .aload_n 0, 1, 0, 0, 0, 0, 0, []),
  (5, .getfield 7, 3, 9, 0, 3, 259, 1, [125]),
  (8, .iconst 0, 1, 0, 0, 0, 0, 0, []),
  (9, .iaload, 1, 0, 0, 0, 0, 0, []),
  (10, .if_icmp .ne 7, 3, 17, 0, 0, 0, 0, []),
  (13, .iconst 1, 1, 0, 0, 0, 0, 1, []),
  (14, .goto 4, 3, 18, 0, 0, 0, 0, []),
  (17, .iconst 0, 1, 0, 0, 0, 0, 0, []),
  (18, .istore_n 1, 1, 1, 0, 0, 0, 0, []),
  (19, .iconst 0, 1, 0, 0, 0, 0, 0, []),
  (20, .istore_n 2, 1, 2, 0, 0, 0, 0, []),
  (21, .iload_n 2, 1, 2, 0, 0, 0, 0, []),
  (22, .aload_n 0, 1, 0, 0, 0, 0, 0, []),
  (23, .getfield 498, 3, 9, 46, 0, 0, 0, [176]),
  (26, .if_icmp .ge 70, 3, 96, 0, 0, 0, 0, []),
  (29, .iload_n 1, 1, 1, 0, 0, 0, 0, []),
  (30, .ifCond .eq 66, 3, 96, 0, 0, 0, 0, []),
  (33, .aload_n 0, 1, 0, 0, 0, 0, 0, []),
  (34, .getfield 95, 3, 9, 47, 4, 128, 28, [152]),
  (37, .iload_n 2, 1, 2, 0, 0, 0, 0, []),
  (38, .laload, 1, 0, 0, 0, 0, 0, []),
  (39, .aload_n 0, 1, 0, 0, 0, 0, 0, []),
  (40, .iload_n 2, 1, 2, 0, 0, 0, 0, []),
  (41, .invokevirtual 136, 3, 144, 2, 2, 1, 9, [140]),
  (44, .lcmp, 4, 88, 1, 0, 0, 0, []),
  (48, .aload_n 0, 1, 0, 0, 0, 0, 0, []),
  (49, .getfield 98, 3, 9, 48, 3, 128, 29, [153]),
  (52, .iload_n 2, 1, 2, 0, 0, 0, 0, []),
  (53, .iaload, 1, 0, 0, 0, 0, 0, []),
  (54, .aload_n 0, 1, 0, 0, 0, 0, 0, []),
  (55, .getfield 7, 3, 9, 0, 3, 259, 1, [125]),
  (58, .bipush 62, 2, 0, 0, 0, 0, 62, []),
  (60, .iload_n 2, 1, 2, 0, 0, 0, 0, []),
  (61, .iadd, 1, 0, 0, 0, 0, 0, []),
  (62, .iaload, 1, 0, 0, 0, 0, 0, []),
  (63, .if_icmp .ne 25, 3, 88, 0, 0, 0, 0, []),
  (66, .aload_n 0, 1, 0, 0, 0, 0, 0, []),
  (67, .getfield 101, 3, 9, 49, 3, 128, 30, [154]),
  (70, .iload_n 2, 1, 2, 0, 0, 0, 0, []),
  (71, .iaload, 1, 0, 0, 0, 0, 0, []),
  (72, .aload_n 0, 1, 0, 0, 0, 0, 0, []),
  (73, .getfield 7, 3, 9, 0, 3, 259, 1, [125]),
  (76, .bipush 122, 2, 0, 0, 0, 0, 122, []),
  (78, .iload_n 2, 1, 2, 0, 0, 0, 0, []),
  (79, .iadd, 1, 0, 0, 0, 0, 0, []),
  (80, .iaload, 1, 0, 0, 0, 0, 0, []),
  (81, .if_icmp .ne 7, 3, 88, 0, 0, 0, 0, []),
  (84, .iconst 1, 1, 0, 0, 0, 0, 1, []),
  (85, .goto 4, 3, 89, 0, 0, 0, 0, []),
  (88, .iconst 0, 1, 0, 0, 0, 0, 0, []),
  (89, .istore_n 1, 1, 1, 0, 0, 0, 0, []),
  (90, .iinc 2 1, 3, 2, 0, 0, 0, 1, []),
  (93, .goto (-72), 3, 21, 0, 0, 0, 0, []),
  (96, .iload_n 1, 1, 1, 0, 0, 0, 0, []),
  (97, .ireturn, 1, 1, 0, 0, 0, 0, [])]
abbrev kMo_gather : Nat := 250
def cMo_gather : List xE := [(0, .aload_n 0, 1, 0, 0, 0, 0, 0, []),
  (1, .invokevirtual 505, 3, 247, 1, 1, 0, 9, [217]),
  (4, .iconst 0, 1, 0, 0, 0, 0, 0, []),
  (5, .istore_n 1, 1, 1, 0, 0, 0, 0, []),
  (6, .iload_n 1, 1, 1, 0, 0, 0, 0, []),
  (7, .aload_n 0, 1, 0, 0, 0, 0, 0, []),
  (8, .getfield 498, 3, 9, 46, 0, 0, 0, [176]),
  (11, .if_icmp .ge 22, 3, 33, 0, 0, 0, 0, []),
  (14, .aload_n 0, 1, 0, 0, 0, 0, 0, []),
  (15, .getfield 101, 3, 9, 49, 3, 128, 30, [154]),
  (18, .iload_n 1, 1, 1, 0, 0, 0, 0, []),
  (19, .iaload, 1, 0, 0, 0, 0, 0, []),
  (20, .iconst (-1), 1, 0, 0, 0, 0, (-1), []),
  (21, .if_icmp .ne 6, 3, 27, 0, 0, 0, 0, []),
  (24, .bipush (-2), 2, 0, 0, 0, 0, (-2), []),
  (26, .ireturn, 1, 0, 0, 0, 0, 0, []),
  (27, .iinc 1 1, 3, 1, 0, 0, 0, 1, []),
  (30, .goto (-24), 3, 6, 0, 0, 0, 0, []),
  (33, .aload_n 0, 1, 0, 0, 0, 0, 0, []),
  (34, .invokevirtual 508, 3, 249, 1, 3, 1, 9, [218]),
  (37, .ifCond .eq 6, 3, 43, 0, 0, 0, 0, []),
  (40, .bipush (-3), 2, 0, 0, 0, 0, (-3), []),
  (42, .ireturn, 1, 0, 0, 0, 0, 0, []),
  (43, .aload_n 0, 1, 0, 0, 0, 0, 0, []),
  (44, .invokevirtual 297, 3, 176, 1, 2, 0, 9, [173]),
  (47, .aload_n 0, 1, 0, 0, 0, 0, 0, []),
  (48, .getfield 7, 3, 9, 0, 3, 259, 1, [125]),
  (51, .iconst 0, 1, 0, 0, 0, 0, 0, []),
  (52, .aload_n 0, 1, 0, 0, 0, 0, 0, []),
  (53, .getfield 498, 3, 9, 46, 0, 0, 0, [176]),
  (56, .iastore, 1, 0, 0, 0, 0, 0, []),
  (57, .iconst 0, 1, 0, 0, 0, 0, 0, []),
  (58, .istore_n 1, 1, 1, 0, 0, 0, 0, []),
  (59, .iload_n 1, 1, 1, 0, 0, 0, 0, []),
  (60, .aload_n 0, 1, 0, 0, 0, 0, 0, []),
  (61, .getfield 498, 3, 9, 46, 0, 0, 0, [176]),
  (64, .if_icmp .ge 54, 3, 118, 0, 0, 0, 0, []),
  (67, .aload_n 0, 1, 0, 0, 0, 0, 0, []),
  (68, .getfield 7, 3, 9, 0, 3, 259, 1, [125]),
  (71, .iconst 2, 1, 0, 0, 0, 0, 2, []),
  (72, .iload_n 1, 1, 1, 0, 0, 0, 0, []),
  (73, .iadd, 1, 0, 0, 0, 0, 0, []),
  (74, .aload_n 0, 1, 0, 0, 0, 0, 0, []),
  (75, .getfield 95, 3, 9, 47, 4, 128, 28, [152]),
  (78, .iload_n 1, 1, 1, 0, 0, 0, 0, []),
  (79, .laload, 1, 0, 0, 0, 0, 0, []),
  (80, .l2i, 1, 0, 0, 0, 0, 0, []),
  (81, .iastore, 1, 0, 0, 0, 0, 0, []),
  (82, .aload_n 0, 1, 0, 0, 0, 0, 0, []),
  (83, .getfield 7, 3, 9, 0, 3, 259, 1, [125]),
  (86, .bipush 62, 2, 0, 0, 0, 0, 62, []),
  (88, .iload_n 1, 1, 1, 0, 0, 0, 0, []),
  (89, .iadd, 1, 0, 0, 0, 0, 0, []),
  (90, .aload_n 0, 1, 0, 0, 0, 0, 0, []),
  (91, .getfield 98, 3, 9, 48, 3, 128, 29, [153]),
  (94, .iload_n 1, 1, 1, 0, 0, 0, 0, []),
  (95, .iaload, 1, 0, 0, 0, 0, 0, []),
  (96, .iastore, 1, 0, 0, 0, 0, 0, []),
  (97, .aload_n 0, 1, 0, 0, 0, 0, 0, []),
  (98, .getfield 7, 3, 9, 0, 3, 259, 1, [125]),
  (101, .bipush 122, 2, 0, 0, 0, 0, 122, []),
  (103, .iload_n 1, 1, 1, 0, 0, 0, 0, []),
  (104, .iadd, 1, 0, 0, 0, 0, 0, []),
  (105, .aload_n 0, 1, 0, 0, 0, 0, 0, []),
  (106, .getfield 101, 3, 9, 49, 3, 128, 30, [154]),
  (109, .iload_n 1, 1, 1, 0, 0, 0, 0, []),
  (110, .iaload, 1, 0, 0, 0, 0, 0, []),
  (111, .iastore, 1, 0, 0, 0, 0, 0, []),
  (112, .iinc 1 1, 3, 1, 0, 0, 0, 1, []),
  (115, .goto (-56), 3, 59, 0, 0, 0, 0, []),
  (118, .iconst 0, 1, 0, 0, 0, 0, 0, []),
  (119, .istore_n 1, 1, 1, 0, 0, 0, 0, []),
  (120, .iload_n 1, 1, 1, 0, 0, 0, 0, []),
  (121, .bipush 60, 2, 0, 0, 0, 0, 60, []),
  (123, .if_icmp .gt 14, 3, 137, 0, 0, 0, 0, []),
  (126, .aload_n 0, 1, 0, 0, 0, 0, 0, []),
  (127, .iload_n 1, 1, 1, 0, 0, 0, 0, []),
  (128, .invokevirtual 158, 3, 149, 2, 2, 0, 9, [146]),
  (131, .iinc 1 1, 3, 1, 0, 0, 0, 1, []),
  (134, .goto (-14), 3, 120, 0, 0, 0, 0, []),
  (137, .aload_n 0, 1, 0, 0, 0, 0, 0, []),
  (138, .invokevirtual 304, 3, 177, 1, 1, 0, 9, [175]),
  (141, .aload_n 0, 1, 0, 0, 0, 0, 0, []),
  (142, .getfield 7, 3, 9, 0, 3, 259, 1, [125]),
  (145, .iconst 0, 1, 0, 0, 0, 0, 0, []),
  (146, .iaload, 1, 0, 0, 0, 0, 0, []),
  (147, .ireturn, 1, 0, 0, 0, 0, 0, [])]
abbrev kMo_ownAt : Nat := 251
def cMo_ownAt : List xE := [(0, .iconst 0, 1, 0, 0, 0, 0, 0, []),
  (1, .istore 4, 2, 4, 0, 0, 0, 0, []),
  (3, .iconst 0, 1, 0, 0, 0, 0, 0, []),
  (4, .istore 5, 2, 5, 0, 0, 0, 0, []),
  (6, .iload 5, 2, 5, 0, 0, 0, 0, []),
  (8, .aload_n 0, 1, 0, 0, 0, 0, 0, []),
  (9, .getfield 23, 3, 9, 6, 3, 2, 5, [129]),
  (12, .iconst 0, 1, 0, 0, 0, 0, 0, []),
  (13, .iaload, 1, 0, 0, 0, 0, 0, []),
  (14, .if_icmp .ge 100, 3, 114, 0, 0, 0, 0, []),
  (17, .aload_n 0, 1, 0, 0, 0, 0, 0, []),
  (18, .getfield 30, 3, 9, 8, 3, 248, 7, [131]),
  (21, .iload 5, 2, 5, 0, 0, 0, 0, []),
  (23, .iaload, 1, 0, 0, 0, 0, 0, []),
  (24, .iload_n 1, 1, 1, 0, 0, 0, 0, []),
  (25, .if_icmp .eq 6, 3, 31, 0, 0, 0, 0, []),
  (28, .goto 80, 3, 108, 0, 0, 0, 0, []),
  (31, .aload_n 0, 1, 0, 0, 0, 0, 0, []),
  (32, .aload_n 0, 1, 0, 0, 0, 0, 0, []),
  (33, .getfield 26, 3, 9, 7, 4, 248, 6, [130]),
  (36, .iload 5, 2, 5, 0, 0, 0, 0, []),
  (38, .laload, 1, 0, 0, 0, 0, 0, []),
  (39, .l2i, 1, 0, 0, 0, 0, 0, []),
  (40, .aload_n 0, 1, 0, 0, 0, 0, 0, []),
  (41, .iconst 0, 1, 0, 0, 0, 0, 0, []),
  (42, .iload 5, 2, 5, 0, 0, 0, 0, []),
  (44, .invokevirtual 201, 3, 161, 3, 3, 1, 9, [156]),
  (47, .lconst 1, 1, 0, 0, 0, 0, 1, []),
  (48, .lsub, 1, 0, 0, 0, 0, 0, []),
  (49, .l2i, 1, 0, 0, 0, 0, 0, []),
  (50, .invokevirtual 313, 3, 187, 3, 8, 1, 9, [177]),
  (53, .istore 6, 2, 6, 0, 0, 0, 0, []),
  (55, .iload_n 2, 1, 2, 0, 0, 0, 0, []),
  (56, .iload 4, 2, 4, 0, 0, 0, 0, []),
  (58, .if_icmp .lt 41, 3, 99, 0, 0, 0, 0, []),
  (61, .iload_n 2, 1, 2, 0, 0, 0, 0, []),
  (62, .iload 4, 2, 4, 0, 0, 0, 0, []),
  (64, .aload_n 0, 1, 0, 0, 0, 0, 0, []),
  (65, .getfield 310, 3, 9, 29, 0, 0, 0, [168]),
  (68, .iadd, 1, 0, 0, 0, 0, 0, []),
  (69, .if_icmp .ge 30, 3, 99, 0, 0, 0, 0, []),
  (72, .iload_n 3, 1, 3, 0, 0, 0, 0, []),
  (73, .ifCond .ne 16, 3, 89, 0, 0, 0, 0, []),
  (76, .aload_n 0, 1, 0, 0, 0, 0, 0, []),
  (77, .getfield 69, 3, 9, 31, 3, 64, 20, [144]),
  (80, .iload_n 2, 1, 2, 0, 0, 0, 0, []),
  (81, .iload 4, 2, 4, 0, 0, 0, 0, []),
  (83, .isub, 1, 0, 0, 0, 0, 0, []),
  (84, .iaload, 1, 0, 0, 0, 0, 0, []),
  (85, .i2l, 1, 0, 0, 0, 0, 0, []),
  (86, .goto 12, 3, 98, 0, 0, 0, 0, []),
  (89, .aload_n 0, 1, 0, 0, 0, 0, 0, []),
  (90, .getfield 66, 3, 9, 30, 4, 64, 19, [143]),
  (93, .iload_n 2, 1, 2, 0, 0, 0, 0, []),
  (94, .iload 4, 2, 4, 0, 0, 0, 0, []),
  (96, .isub, 1, 0, 0, 0, 0, 0, []),
  (97, .laload, 1, 0, 0, 0, 0, 0, []),
  (98, .lreturn, 1, 0, 0, 0, 0, 0, []),
  (99, .iload 4, 2, 4, 0, 0, 0, 0, []),
  (101, .aload_n 0, 1, 0, 0, 0, 0, 0, []),
  (102, .getfield 310, 3, 9, 29, 0, 0, 0, [168]),
  (105, .iadd, 1, 0, 0, 0, 0, 0, []),
  (106, .istore 4, 2, 4, 0, 0, 0, 0, []),
  (108, .iinc 5 1, 3, 5, 0, 0, 0, 1, []),
  (111, .goto (-105), 3, 6, 0, 0, 0, 0, []),
  (114, .bipush (-3), 2, 0, 0, 0, 0, (-3), []),
  (116, .iload 4, 2, 4, 0, 0, 0, 0, []),
  (118, .isub, 1, 0, 0, 0, 0, 0, []),
  (119, .i2l, 1, 0, 0, 0, 0, 0, []),
  (120, .lreturn, 1, 0, 0, 0, 0, 0, [])]
abbrev kMo_own : Nat := 252
def cMo_own : List xE := [(0, .iload_n 1, 1, 1, 0, 0, 0, 0, []),
  (1, .iconst (-1), 1, 0, 0, 0, 0, (-1), []),
  (2, .if_icmp .eq 11, 3, 13, 0, 0, 0, 0, []),
  (5, .aload_n 0, 1, 0, 0, 0, 0, 0, []),
  (6, .iload_n 1, 1, 1, 0, 0, 0, 0, []),
  (7, .invokevirtual 444, 3, 223, 2, 2, 1, 9, [202]),
  (10, .ifCond .eq 18, 3, 28, 0, 0, 0, 0, []),
  (13, .iload_n 2, 1, 2, 0, 0, 0, 0, []),
  (14, .iconst (-1), 1, 0, 0, 0, 0, (-1), []),
  (15, .if_icmp .lt 13, 3, 28, 0, 0, 0, 0, []),
  (18, .iload_n 3, 1, 3, 0, 0, 0, 0, []),
  (19, .i2l, 1, 0, 0, 0, 0, 0, []),
  (20, .lconst 0, 1, 0, 0, 0, 0, 0, []),
  (21, .lconst 1, 1, 0, 0, 0, 0, 1, []),
  (22, .invokestatic 121, 3, 138, 3, 6, 1, 0, [137]),
  (25, .ifCond .ne 7, 3, 32, 0, 0, 0, 0, []),
  (28, .ldc2_w 316, 3, 0, 0, 0, 0, (-2), [23]),
  (31, .lreturn, 1, 0, 0, 0, 0, 0, []),
  (32, .aload_n 0, 1, 0, 0, 0, 0, 0, []),
  (33, .iload_n 1, 1, 1, 0, 0, 0, 0, []),
  (34, .iconst (-1), 1, 0, 0, 0, 0, (-1), []),
  (35, .if_icmp .ne 7, 3, 42, 0, 0, 0, 0, []),
  (38, .iconst (-1), 1, 0, 0, 0, 0, (-1), []),
  (39, .goto 13, 3, 52, 0, 0, 0, 0, []),
  (42, .aload_n 0, 1, 0, 0, 0, 0, 0, []),
  (43, .getfield 7, 3, 9, 0, 3, 259, 1, [125]),
  (46, .sipush 182, 3, 0, 0, 0, 0, 182, []),
  (49, .iload_n 1, 1, 1, 0, 0, 0, 0, []),
  (50, .iadd, 1, 0, 0, 0, 0, 0, []),
  (51, .iaload, 1, 0, 0, 0, 0, 0, []),
  (52, .iload_n 2, 1, 2, 0, 0, 0, 0, []),
  (53, .iload_n 3, 1, 3, 0, 0, 0, 0, []),
  (54, .invokevirtual 511, 3, 251, 4, 7, 1, 9, [219]),
  (57, .lstore 4, 2, 4, 0, 0, 0, 0, []),
  (59, .iload_n 2, 1, 2, 0, 0, 0, 0, []),
  (60, .iconst (-1), 1, 0, 0, 0, 0, (-1), []),
  (61, .if_icmp .ne 20, 3, 81, 0, 0, 0, 0, []),
  (64, .iload_n 3, 1, 3, 0, 0, 0, 0, []),
  (65, .ifCond .ne 12, 3, 77, 0, 0, 0, 0, []),
  (68, .ldc2_w 515, 3, 0, 0, 0, 0, (-3), [34]),
  (71, .lload 4, 2, 4, 0, 0, 0, 0, []),
  (73, .lsub, 1, 0, 0, 0, 0, 0, []),
  (74, .goto 6, 3, 80, 0, 0, 0, 0, []),
  (77, .ldc2_w 316, 3, 0, 0, 0, 0, (-2), [23]),
  (80, .lreturn, 1, 0, 0, 0, 0, 0, []),
  (81, .lload 4, 2, 4, 0, 0, 0, 0, []),
  (83, .lconst 0, 1, 0, 0, 0, 0, 0, []),
  (84, .lcmp, 4, 94, 3, 0, 0, 0, []),
  (88, .ldc2_w 316, 3, 0, 0, 0, 0, (-2), [23]),
  (91, .goto 5, 3, 96, 0, 0, 0, 0, []),
  (94, .lload 4, 2, 4, 0, 0, 0, 0, []),
  (96, .lreturn, 1, 0, 0, 0, 0, 0, [])]
abbrev kMo_nodesOf : Nat := 253
def cMo_nodesOf : List xE := [(0, .iload_n 1, 1, 1, 0, 0, 0, 0, []),
  (1, .ifCond .ne 5, 3, 6, 0, 0, 0, 0, []),
  (4, .iconst 1, 1, 0, 0, 0, 0, 1, []),
  (5, .ireturn, 1, 0, 0, 0, 0, 0, []),
  (6, .iload_n 1, 1, 1, 0, 0, 0, 0, []),
  (7, .invokestatic 129, 3, 141, 1, 1, 1, 0, [139]),
  (10, .lstore_n 2, 1, 2, 0, 0, 0, 0, []),
  (11, .ldc2_w 264, 3, 0, 0, 0, 0, (-1), [22]),
  (14, .lstore 4, 2, 4, 0, 0, 0, 0, []),
  (16, .iconst 0, 1, 0, 0, 0, 0, 0, []),
  (17, .istore 6, 2, 6, 0, 0, 0, 0, []),
  (19, .iconst 1, 1, 0, 0, 0, 0, 1, []),
  (20, .istore 7, 2, 7, 0, 0, 0, 0, []),
  (22, .iload 7, 2, 7, 0, 0, 0, 0, []),
  (24, .aload_n 0, 1, 0, 0, 0, 0, 0, []),
  (25, .getfield 23, 3, 9, 6, 3, 2, 5, [129]),
  (28, .iconst 0, 1, 0, 0, 0, 0, 0, []),
  (29, .iaload, 1, 0, 0, 0, 0, 0, []),
  (30, .if_icmp .ge 61, 3, 91, 0, 0, 0, 0, []),
  (33, .aload_n 0, 1, 0, 0, 0, 0, 0, []),
  (34, .getfield 26, 3, 9, 7, 4, 248, 6, [130]),
  (37, .iload 7, 2, 7, 0, 0, 0, 0, []),
  (39, .laload, 1, 0, 0, 0, 0, 0, []),
  (40, .lload_n 2, 1, 2, 0, 0, 0, 0, []),
  (41, .lrem, 1, 0, 0, 0, 0, 0, []),
  (42, .lstore 8, 2, 8, 0, 0, 0, 0, []),
  (44, .lload 8, 2, 8, 0, 0, 0, 0, []),
  (46, .lconst 0, 1, 0, 0, 0, 0, 0, []),
  (47, .lcmp, 4, 85, 0, 0, 0, 0, []),
  (51, .aload_n 0, 1, 0, 0, 0, 0, 0, []),
  (52, .getfield 26, 3, 9, 7, 4, 248, 6, [130]),
  (55, .iload 7, 2, 7, 0, 0, 0, 0, []),
  (57, .laload, 1, 0, 0, 0, 0, 0, []),
  (58, .lload 8, 2, 8, 0, 0, 0, 0, []),
  (60, .lsub, 1, 0, 0, 0, 0, 0, []),
  (61, .lload 4, 2, 4, 0, 0, 0, 0, []),
  (63, .lcmp, 4, 70, 1, 0, 0, 0, []),
  (67, .goto 18, 3, 85, 0, 0, 0, 0, []),
  (70, .aload_n 0, 1, 0, 0, 0, 0, 0, []),
  (71, .getfield 26, 3, 9, 7, 4, 248, 6, [130]),
  (74, .iload 7, 2, 7, 0, 0, 0, 0, []),
  (76, .laload, 1, 0, 0, 0, 0, 0, []),
  (77, .lload 8, 2, 8, 0, 0, 0, 0, []),
  (79, .lsub, 1, 0, 0, 0, 0, 0, []),
  (80, .lstore 4, 2, 4, 0, 0, 0, 0, []),
  (82, .iinc 6 1, 3, 6, 0, 0, 0, 1, []),
  (85, .iinc 7 1, 3, 7, 0, 0, 0, 1, []),
  (88, .goto (-66), 3, 22, 0, 0, 0, 0, []),
  (91, .iload 6, 2, 6, 0, 0, 0, 0, []),
  (93, .ireturn, 1, 0, 0, 0, 0, 0, [])]
abbrev kMo_slotsIf : Nat := 254
def cMo_slotsIf : List xE := [(0, .iload_n 1, 1, 1, 0, 0, 0, 0, []),
  (1, .iload_n 2, 1, 2, 0, 0, 0, 0, []),
  (2, .iadd, 1, 0, 0, 0, 0, 0, []),
  (3, .bipush 32, 2, 0, 0, 0, 0, 32, []),
  (5, .if_icmp .le 7, 3, 12, 0, 0, 0, 0, []),
  (8, .ldc_w 517, 3, 0, 0, 0, 0, 1000000000, [35]),
  (11, .ireturn, 1, 0, 0, 0, 0, 0, []),
  (12, .aload_n 0, 1, 0, 0, 0, 0, 0, []),
  (13, .getfield 107, 3, 9, 51, 3, 561, 32, [156]),
  (16, .bipush 17, 2, 0, 0, 0, 0, 17, []),
  (18, .iload_n 1, 1, 1, 0, 0, 0, 0, []),
  (19, .iload_n 2, 1, 2, 0, 0, 0, 0, []),
  (20, .iadd, 1, 0, 0, 0, 0, 0, []),
  (21, .imul, 1, 0, 0, 0, 0, 0, []),
  (22, .iload_n 3, 1, 3, 0, 0, 0, 0, []),
  (23, .iadd, 1, 0, 0, 0, 0, 0, []),
  (24, .iconst 1, 1, 0, 0, 0, 0, 1, []),
  (25, .isub, 1, 0, 0, 0, 0, 0, []),
  (26, .iaload, 1, 0, 0, 0, 0, 0, []),
  (27, .istore 4, 2, 4, 0, 0, 0, 0, []),
  (29, .iload 4, 2, 4, 0, 0, 0, 0, []),
  (31, .ldc_w 517, 3, 0, 0, 0, 0, 1000000000, [35]),
  (34, .if_icmp .ne 9, 3, 43, 0, 0, 0, 0, []),
  (37, .ldc_w 517, 3, 0, 0, 0, 0, 1000000000, [35]),
  (40, .goto 16, 3, 56, 0, 0, 0, 0, []),
  (43, .aload_n 0, 1, 0, 0, 0, 0, 0, []),
  (44, .getfield 104, 3, 9, 50, 3, 33, 31, [155]),
  (47, .iload_n 1, 1, 1, 0, 0, 0, 0, []),
  (48, .iaload, 1, 0, 0, 0, 0, 0, []),
  (49, .iconst 1, 1, 0, 0, 0, 0, 1, []),
  (50, .iload_n 2, 1, 2, 0, 0, 0, 0, []),
  (51, .ishl, 1, 0, 0, 0, 0, 0, []),
  (52, .imul, 1, 0, 0, 0, 0, 0, []),
  (53, .iload 4, 2, 4, 0, 0, 0, 0, []),
  (55, .iadd, 1, 0, 0, 0, 0, 0, []),
  (56, .ireturn, 1, 0, 0, 0, 0, 0, [])]
abbrev kMo_laysSlots : Nat := 255
def cMo_laysSlots : List xE := [(0, .iconst 0, 1, 0, 0, 0, 0, 0, []),
  (1, .istore_n 1, 1, 1, 0, 0, 0, 0, []),
  (2, .iload_n 1, 1, 1, 0, 0, 0, 0, []),
  (3, .bipush 32, 2, 0, 0, 0, 0, 32, []),
  (5, .if_icmp .gt 20, 3, 25, 0, 0, 0, 0, []),
  (8, .aload_n 0, 1, 0, 0, 0, 0, 0, []),
  (9, .getfield 104, 3, 9, 50, 3, 33, 31, [155]),
  (12, .iload_n 1, 1, 1, 0, 0, 0, 0, []),
  (13, .aload_n 0, 1, 0, 0, 0, 0, 0, []),
  (14, .iload_n 1, 1, 1, 0, 0, 0, 0, []),
  (15, .invokevirtual 518, 3, 253, 2, 10, 1, 9, [220]),
  (18, .iastore, 1, 0, 0, 0, 0, 0, []),
  (19, .iinc 1 1, 3, 1, 0, 0, 0, 1, []),
  (22, .goto (-20), 3, 2, 0, 0, 0, 0, []),
  (25, .bipush 32, 2, 0, 0, 0, 0, 32, []),
  (27, .istore_n 1, 1, 1, 0, 0, 0, 0, []),
  (28, .iload_n 1, 1, 1, 0, 0, 0, 0, []),
  (29, .ifCond .lt 98, 3, 127, 0, 0, 0, 0, []),
  (32, .iconst 0, 1, 0, 0, 0, 0, 0, []),
  (33, .istore_n 2, 1, 2, 0, 0, 0, 0, []),
  (34, .iload_n 2, 1, 2, 0, 0, 0, 0, []),
  (35, .bipush 16, 2, 0, 0, 0, 0, 16, []),
  (37, .if_icmp .gt 84, 3, 121, 0, 0, 0, 0, []),
  (40, .iload_n 1, 1, 1, 0, 0, 0, 0, []),
  (41, .bipush 32, 2, 0, 0, 0, 0, 32, []),
  (43, .if_icmp .ne 11, 3, 54, 0, 0, 0, 0, []),
  (46, .iload_n 2, 1, 2, 0, 0, 0, 0, []),
  (47, .ifCond .ne 7, 3, 54, 0, 0, 0, 0, []),
  (50, .iconst 0, 1, 0, 0, 0, 0, 0, []),
  (51, .goto 6, 3, 57, 0, 0, 0, 0, []),
  (54, .ldc_w 517, 3, 0, 0, 0, 0, 1000000000, [35]),
  (57, .istore_n 3, 1, 3, 0, 0, 0, 0, []),
  (58, .iconst 2, 1, 0, 0, 0, 0, 2, []),
  (59, .istore 4, 2, 4, 0, 0, 0, 0, []),
  (61, .iload 4, 2, 4, 0, 0, 0, 0, []),
  (63, .bipush 6, 2, 0, 0, 0, 0, 6, []),
  (65, .if_icmp .gt 38, 3, 103, 0, 0, 0, 0, []),
  (68, .iload_n 2, 1, 2, 0, 0, 0, 0, []),
  (69, .ifCond .le 34, 3, 103, 0, 0, 0, 0, []),
  (72, .aload_n 0, 1, 0, 0, 0, 0, 0, []),
  (73, .iload_n 1, 1, 1, 0, 0, 0, 0, []),
  (74, .iload 4, 2, 4, 0, 0, 0, 0, []),
  (76, .iload_n 2, 1, 2, 0, 0, 0, 0, []),
  (77, .invokevirtual 521, 3, 254, 4, 5, 1, 9, [221]),
  (80, .iload_n 3, 1, 3, 0, 0, 0, 0, []),
  (81, .if_icmp .ge 14, 3, 95, 0, 0, 0, 0, []),
  (84, .aload_n 0, 1, 0, 0, 0, 0, 0, []),
  (85, .iload_n 1, 1, 1, 0, 0, 0, 0, []),
  (86, .iload 4, 2, 4, 0, 0, 0, 0, []),
  (88, .iload_n 2, 1, 2, 0, 0, 0, 0, []),
  (89, .invokevirtual 521, 3, 254, 4, 5, 1, 9, [221]),
  (92, .goto 4, 3, 96, 0, 0, 0, 0, []),
  (95, .iload_n 3, 1, 3, 0, 0, 0, 0, []),
  (96, .istore_n 3, 1, 3, 0, 0, 0, 0, []),
  (97, .iinc 4 1, 3, 4, 0, 0, 0, 1, []),
  (100, .goto (-39), 3, 61, 0, 0, 0, 0, []),
  (103, .aload_n 0, 1, 0, 0, 0, 0, 0, []),
  (104, .getfield 107, 3, 9, 51, 3, 561, 32, [156]),
  (107, .bipush 17, 2, 0, 0, 0, 0, 17, []),
  (109, .iload_n 1, 1, 1, 0, 0, 0, 0, []),
  (110, .imul, 1, 0, 0, 0, 0, 0, []),
  (111, .iload_n 2, 1, 2, 0, 0, 0, 0, []),
  (112, .iadd, 1, 0, 0, 0, 0, 0, []),
  (113, .iload_n 3, 1, 3, 0, 0, 0, 0, []),
  (114, .iastore, 1, 0, 0, 0, 0, 0, []),
  (115, .iinc 2 1, 3, 2, 0, 0, 0, 1, []),
  (118, .goto (-84), 3, 34, 0, 0, 0, 0, []),
  (121, .iinc 1 (-1), 3, 1, 0, 0, 0, (-1), []),
  (124, .goto (-96), 3, 28, 0, 0, 0, 0, []),
  (127, .return_, 1, 0, 0, 0, 0, 0, [])]
abbrev kMo_stridesOf : Nat := 256
def cMo_stridesOf : List xE := [(0, .lconst 0, 1, 0, 0, 0, 0, 0, []),
  (1, .lstore_n 2, 1, 2, 0, 0, 0, 0, []),
  (2, .iconst 0, 1, 0, 0, 0, 0, 0, []),
  (3, .istore 4, 2, 4, 0, 0, 0, 0, []),
  (5, .iload_n 1, 1, 1, 0, 0, 0, 0, []),
  (6, .istore 5, 2, 5, 0, 0, 0, 0, []),
  (8, .iload 5, 2, 5, 0, 0, 0, 0, []),
  (10, .ifCond .le 61, 3, 71, 0, 0, 0, 0, []),
  (13, .iconst 2, 1, 0, 0, 0, 0, 2, []),
  (14, .istore 6, 2, 6, 0, 0, 0, 0, []),
  (16, .aload_n 0, 1, 0, 0, 0, 0, 0, []),
  (17, .iload 4, 2, 4, 0, 0, 0, 0, []),
  (19, .iload 6, 2, 6, 0, 0, 0, 0, []),
  (21, .iload 5, 2, 5, 0, 0, 0, 0, []),
  (23, .invokevirtual 521, 3, 254, 4, 5, 1, 9, [221]),
  (26, .aload_n 0, 1, 0, 0, 0, 0, 0, []),
  (27, .getfield 107, 3, 9, 51, 3, 561, 32, [156]),
  (30, .bipush 17, 2, 0, 0, 0, 0, 17, []),
  (32, .iload 4, 2, 4, 0, 0, 0, 0, []),
  (34, .imul, 1, 0, 0, 0, 0, 0, []),
  (35, .iload 5, 2, 5, 0, 0, 0, 0, []),
  (37, .iadd, 1, 0, 0, 0, 0, 0, []),
  (38, .iaload, 1, 0, 0, 0, 0, 0, []),
  (39, .if_icmp .eq 9, 3, 48, 0, 0, 0, 0, []),
  (42, .iinc 6 1, 3, 6, 0, 0, 0, 1, []),
  (45, .goto (-29), 3, 16, 0, 0, 0, 0, []),
  (48, .ldc2_w 325, 3, 0, 0, 0, 0, 10, [26]),
  (51, .lload_n 2, 1, 2, 0, 0, 0, 0, []),
  (52, .lmul, 1, 0, 0, 0, 0, 0, []),
  (53, .iload 6, 2, 6, 0, 0, 0, 0, []),
  (55, .i2l, 1, 0, 0, 0, 0, 0, []),
  (56, .ladd, 1, 0, 0, 0, 0, 0, []),
  (57, .lstore_n 2, 1, 2, 0, 0, 0, 0, []),
  (58, .iload 4, 2, 4, 0, 0, 0, 0, []),
  (60, .iload 6, 2, 6, 0, 0, 0, 0, []),
  (62, .iadd, 1, 0, 0, 0, 0, 0, []),
  (63, .istore 4, 2, 4, 0, 0, 0, 0, []),
  (65, .iinc 5 (-1), 3, 5, 0, 0, 0, (-1), []),
  (68, .goto (-60), 3, 8, 0, 0, 0, 0, []),
  (71, .lload_n 2, 1, 2, 0, 0, 0, 0, []),
  (72, .lreturn, 1, 0, 0, 0, 0, 0, [])]
abbrev kMo_best : Nat := 257
def cMo_best : List xE := [(0, .iload_n 1, 1, 1, 0, 0, 0, 0, []),
  (1, .i2l, 1, 0, 0, 0, 0, 0, []),
  (2, .ldc2_w 323, 3, 0, 0, 0, 0, 6, [25]),
  (5, .ldc2_w 525, 3, 0, 0, 0, 0, 16, [36]),
  (8, .invokestatic 121, 3, 138, 3, 6, 1, 0, [137]),
  (11, .ifCond .eq 13, 3, 24, 0, 0, 0, 0, []),
  (14, .iload_n 2, 1, 2, 0, 0, 0, 0, []),
  (15, .i2l, 1, 0, 0, 0, 0, 0, []),
  (16, .lconst 0, 1, 0, 0, 0, 0, 0, []),
  (17, .lconst 1, 1, 0, 0, 0, 0, 1, []),
  (18, .invokestatic 121, 3, 138, 3, 6, 1, 0, [137]),
  (21, .ifCond .ne 7, 3, 28, 0, 0, 0, 0, []),
  (24, .ldc2_w 264, 3, 0, 0, 0, 0, (-1), [22]),
  (27, .lreturn, 1, 0, 0, 0, 0, 0, []),
  (28, .aload_n 0, 1, 0, 0, 0, 0, 0, []),
  (29, .invokevirtual 527, 3, 255, 1, 5, 0, 9, [222]),
  (32, .bipush 6, 2, 0, 0, 0, 0, 6, []),
  (34, .istore_n 3, 1, 3, 0, 0, 0, 0, []),
  (35, .bipush 7, 2, 0, 0, 0, 0, 7, []),
  (37, .istore 4, 2, 4, 0, 0, 0, 0, []),
  (39, .iload 4, 2, 4, 0, 0, 0, 0, []),
  (41, .iload_n 1, 1, 1, 0, 0, 0, 0, []),
  (42, .if_icmp .gt 32, 3, 74, 0, 0, 0, 0, []),
  (45, .aload_n 0, 1, 0, 0, 0, 0, 0, []),
  (46, .getfield 107, 3, 9, 51, 3, 561, 32, [156]),
  (49, .iload 4, 2, 4, 0, 0, 0, 0, []),
  (51, .iaload, 1, 0, 0, 0, 0, 0, []),
  (52, .aload_n 0, 1, 0, 0, 0, 0, 0, []),
  (53, .getfield 107, 3, 9, 51, 3, 561, 32, [156]),
  (56, .iload_n 3, 1, 3, 0, 0, 0, 0, []),
  (57, .iaload, 1, 0, 0, 0, 0, 0, []),
  (58, .if_icmp .ge 8, 3, 66, 0, 0, 0, 0, []),
  (61, .iload 4, 2, 4, 0, 0, 0, 0, []),
  (63, .goto 4, 3, 67, 0, 0, 0, 0, []),
  (66, .iload_n 3, 1, 3, 0, 0, 0, 0, []),
  (67, .istore_n 3, 1, 3, 0, 0, 0, 0, []),
  (68, .iinc 4 1, 3, 4, 0, 0, 0, 1, []),
  (71, .goto (-32), 3, 39, 0, 0, 0, 0, []),
  (74, .iload_n 2, 1, 2, 0, 0, 0, 0, []),
  (75, .ifCond .ne 13, 3, 88, 0, 0, 0, 0, []),
  (78, .aload_n 0, 1, 0, 0, 0, 0, 0, []),
  (79, .getfield 107, 3, 9, 51, 3, 561, 32, [156]),
  (82, .iload_n 3, 1, 3, 0, 0, 0, 0, []),
  (83, .iaload, 1, 0, 0, 0, 0, 0, []),
  (84, .i2l, 1, 0, 0, 0, 0, 0, []),
  (85, .goto 8, 3, 93, 0, 0, 0, 0, []),
  (88, .aload_n 0, 1, 0, 0, 0, 0, 0, []),
  (89, .iload_n 3, 1, 3, 0, 0, 0, 0, []),
  (90, .invokevirtual 530, 3, 256, 2, 7, 1, 9, [223]),
  (93, .lreturn, 1, 0, 0, 0, 0, 0, [])]
abbrev kMo_hops : Nat := 258
def cMo_hops : List xE := [(0, .iconst 0, 1, 0, 0, 0, 0, 0, []),
  (1, .istore_n 1, 1, 1, 0, 0, 0, 0, []),
  (2, .iconst 0, 1, 0, 0, 0, 0, 0, []),
  (3, .istore_n 2, 1, 2, 0, 0, 0, 0, []),
  (4, .iload_n 2, 1, 2, 0, 0, 0, 0, []),
  (5, .bipush 60, 2, 0, 0, 0, 0, 60, []),
  (7, .if_icmp .gt 31, 3, 38, 0, 0, 0, 0, []),
  (10, .iload_n 1, 1, 1, 0, 0, 0, 0, []),
  (11, .aload_n 0, 1, 0, 0, 0, 0, 0, []),
  (12, .getfield 7, 3, 9, 0, 3, 259, 1, [125]),
  (15, .sipush 182, 3, 0, 0, 0, 0, 182, []),
  (18, .iload_n 2, 1, 2, 0, 0, 0, 0, []),
  (19, .iadd, 1, 0, 0, 0, 0, 0, []),
  (20, .iaload, 1, 0, 0, 0, 0, 0, []),
  (21, .iconst (-1), 1, 0, 0, 0, 0, (-1), []),
  (22, .if_icmp .ne 7, 3, 29, 0, 0, 0, 0, []),
  (25, .iconst 0, 1, 0, 0, 0, 0, 0, []),
  (26, .goto 4, 3, 30, 0, 0, 0, 0, []),
  (29, .iconst 1, 1, 0, 0, 0, 0, 1, []),
  (30, .iadd, 1, 0, 0, 0, 0, 0, []),
  (31, .istore_n 1, 1, 1, 0, 0, 0, 0, []),
  (32, .iinc 2 1, 3, 2, 0, 0, 0, 1, []),
  (35, .goto (-31), 3, 4, 0, 0, 0, 0, []),
  (38, .iload_n 1, 1, 1, 0, 0, 0, 0, []),
  (39, .ireturn, 1, 0, 0, 0, 0, 0, [])]
abbrev kMo_idle : Nat := 259
def cMo_idle : List xE := [(0, .iconst 0, 1, 0, 0, 0, 0, 0, []),
  (1, .istore_n 1, 1, 1, 0, 0, 0, 0, []),
  (2, .iconst 0, 1, 0, 0, 0, 0, 0, []),
  (3, .istore_n 2, 1, 2, 0, 0, 0, 0, []),
  (4, .iload_n 2, 1, 2, 0, 0, 0, 0, []),
  (5, .aload_n 0, 1, 0, 0, 0, 0, 0, []),
  (6, .getfield 7, 3, 9, 0, 3, 259, 1, [125]),
  (9, .iconst 0, 1, 0, 0, 0, 0, 0, []),
  (10, .iaload, 1, 0, 0, 0, 0, 0, []),
  (11, .if_icmp .ge 27, 3, 38, 0, 0, 0, 0, []),
  (14, .iload_n 1, 1, 1, 0, 0, 0, 0, []),
  (15, .aload_n 0, 1, 0, 0, 0, 0, 0, []),
  (16, .iload_n 2, 1, 2, 0, 0, 0, 0, []),
  (17, .invokevirtual 436, 3, 218, 2, 5, 1, 9, [200]),
  (20, .lconst 0, 1, 0, 0, 0, 0, 0, []),
  (21, .lcmp, 4, 29, 1, 0, 0, 0, []),
  (25, .iconst 1, 1, 0, 0, 0, 0, 1, []),
  (26, .goto 4, 3, 30, 0, 0, 0, 0, []),
  (29, .iconst 0, 1, 0, 0, 0, 0, 0, []),
  (30, .iadd, 1, 0, 0, 0, 0, 0, []),
  (31, .istore_n 1, 1, 1, 0, 0, 0, 0, []),
  (32, .iinc 2 1, 3, 2, 0, 0, 0, 1, []),
  (35, .goto (-31), 3, 4, 0, 0, 0, 0, []),
  (38, .iload_n 1, 1, 1, 0, 0, 0, 0, []),
  (39, .ireturn, 1, 0, 0, 0, 0, 0, [])]
abbrev kMo_allLevels : Nat := 260
def cMo_allLevels : List xE := [(0, .iconst 0, 1, 0, 0, 0, 0, 0, []),
  (1, .istore_n 2, 1, 2, 0, 0, 0, 0, []),
  (2, .iconst 0, 1, 0, 0, 0, 0, 0, []),
  (3, .istore_n 3, 1, 3, 0, 0, 0, 0, []),
  (4, .iload_n 3, 1, 3, 0, 0, 0, 0, []),
  (5, .aload_n 0, 1, 0, 0, 0, 0, 0, []),
  (6, .getfield 33, 3, 9, 9, 3, 2, 8, [132]),
  (9, .iconst 0, 1, 0, 0, 0, 0, 0, []),
  (10, .iaload, 1, 0, 0, 0, 0, 0, []),
  (11, .if_icmp .ge 18, 3, 29, 0, 0, 0, 0, []),
  (14, .iload_n 2, 1, 2, 0, 0, 0, 0, []),
  (15, .aload_n 0, 1, 0, 0, 0, 0, 0, []),
  (16, .iload_n 3, 1, 3, 0, 0, 0, 0, []),
  (17, .iload_n 1, 1, 1, 0, 0, 0, 0, []),
  (18, .invokevirtual 533, 3, 240, 3, 3, 1, 9, [224]),
  (21, .iadd, 1, 0, 0, 0, 0, 0, []),
  (22, .istore_n 2, 1, 2, 0, 0, 0, 0, []),
  (23, .iinc 3 1, 3, 3, 0, 0, 0, 1, []),
  (26, .goto (-22), 3, 4, 0, 0, 0, 0, []),
  (29, .iload_n 2, 1, 2, 0, 0, 0, 0, []),
  (30, .ireturn, 1, 0, 0, 0, 0, 0, [])]
abbrev kMo_keptSet : Nat := 261
def cMo_keptSet : List xE := [(0, .iconst 0, 1, 0, 0, 0, 0, 0, []),
  (1, .istore_n 1, 1, 1, 0, 0, 0, 0, []),
  (2, .iconst 0, 1, 0, 0, 0, 0, 0, []),
  (3, .istore_n 2, 1, 2, 0, 0, 0, 0, []),
  (4, .iload_n 2, 1, 2, 0, 0, 0, 0, []),
  (5, .iconst 2, 1, 0, 0, 0, 0, 2, []),
  (6, .if_icmp .ge 28, 3, 34, 0, 0, 0, 0, []),
  (9, .iload_n 1, 1, 1, 0, 0, 0, 0, []),
  (10, .aload_n 0, 1, 0, 0, 0, 0, 0, []),
  (11, .getfield 19, 3, 9, 4, 5, 2, 4, [128]),
  (14, .iload_n 2, 1, 2, 0, 0, 0, 0, []),
  (15, .baload, 1, 0, 0, 0, 0, 0, []),
  (16, .ifCond .eq 9, 3, 25, 0, 0, 0, 0, []),
  (19, .iconst 1, 1, 0, 0, 0, 0, 1, []),
  (20, .iload_n 2, 1, 2, 0, 0, 0, 0, []),
  (21, .ishl, 1, 0, 0, 0, 0, 0, []),
  (22, .goto 4, 3, 26, 0, 0, 0, 0, []),
  (25, .iconst 0, 1, 0, 0, 0, 0, 0, []),
  (26, .ior, 1, 0, 0, 0, 0, 0, []),
  (27, .istore_n 1, 1, 1, 0, 0, 0, 0, []),
  (28, .iinc 2 1, 3, 2, 0, 0, 0, 1, []),
  (31, .goto (-27), 3, 4, 0, 0, 0, 0, []),
  (34, .iload_n 1, 1, 1, 0, 0, 0, 0, []),
  (35, .ireturn, 1, 0, 0, 0, 0, 0, [])]
abbrev kMo_count : Nat := 262
def cMo_count : List xE := [(0, .iload_n 1, 1, 1, 0, 0, 0, 0, []),
  (1, .tableswitch 149 0 12 #[67, 74, 79, 86, 91, 97, 103, 110, 115, 120, 125, 130, 135], 67, 150, 0, 0, 0, 0, [68, 75, 80, 87, 92, 98, 104, 111, 116, 121, 126, 131, 136]),
  (68, .aload_n 0, 1, 0, 0, 0, 0, 0, []),
  (69, .getfield 7, 3, 9, 0, 3, 259, 1, [125]),
  (72, .iconst 0, 1, 0, 0, 0, 0, 0, []),
  (73, .iaload, 1, 0, 0, 0, 0, 0, []),
  (74, .ireturn, 1, 0, 0, 0, 0, 0, []),
  (75, .aload_n 0, 1, 0, 0, 0, 0, 0, []),
  (76, .invokevirtual 536, 3, 258, 1, 3, 1, 9, [225]),
  (79, .ireturn, 1, 0, 0, 0, 0, 0, []),
  (80, .aload_n 0, 1, 0, 0, 0, 0, 0, []),
  (81, .getfield 7, 3, 9, 0, 3, 259, 1, [125]),
  (84, .iconst 1, 1, 0, 0, 0, 0, 1, []),
  (85, .iaload, 1, 0, 0, 0, 0, 0, []),
  (86, .ireturn, 1, 0, 0, 0, 0, 0, []),
  (87, .aload_n 0, 1, 0, 0, 0, 0, 0, []),
  (88, .getfield 205, 3, 9, 15, 0, 0, 0, [158]),
  (91, .ireturn, 1, 0, 0, 0, 0, 0, []),
  (92, .aload_n 0, 1, 0, 0, 0, 0, 0, []),
  (93, .iconst 3, 1, 0, 0, 0, 0, 3, []),
  (94, .invokevirtual 539, 3, 260, 2, 4, 1, 9, [226]),
  (97, .ireturn, 1, 0, 0, 0, 0, 0, []),
  (98, .aload_n 0, 1, 0, 0, 0, 0, 0, []),
  (99, .iconst 2, 1, 0, 0, 0, 0, 2, []),
  (100, .invokevirtual 539, 3, 260, 2, 4, 1, 9, [226]),
  (103, .ireturn, 1, 0, 0, 0, 0, 0, []),
  (104, .aload_n 0, 1, 0, 0, 0, 0, 0, []),
  (105, .getfield 23, 3, 9, 6, 3, 2, 5, [129]),
  (108, .iconst 0, 1, 0, 0, 0, 0, 0, []),
  (109, .iaload, 1, 0, 0, 0, 0, 0, []),
  (110, .ireturn, 1, 0, 0, 0, 0, 0, []),
  (111, .aload_n 0, 1, 0, 0, 0, 0, 0, []),
  (112, .invokevirtual 542, 3, 259, 1, 3, 1, 9, [227]),
  (115, .ireturn, 1, 0, 0, 0, 0, 0, []),
  (116, .aload_n 0, 1, 0, 0, 0, 0, 0, []),
  (117, .getfield 276, 3, 9, 5, 0, 0, 0, [167]),
  (120, .ireturn, 1, 0, 0, 0, 0, 0, []),
  (121, .aload_n 0, 1, 0, 0, 0, 0, 0, []),
  (122, .getfield 266, 3, 9, 2, 0, 0, 0, [166]),
  (125, .ireturn, 1, 0, 0, 0, 0, 0, []),
  (126, .aload_n 0, 1, 0, 0, 0, 0, 0, []),
  (127, .getfield 344, 3, 9, 35, 0, 0, 0, [170]),
  (130, .ireturn, 1, 0, 0, 0, 0, 0, []),
  (131, .aload_n 0, 1, 0, 0, 0, 0, 0, []),
  (132, .invokevirtual 545, 3, 261, 1, 3, 1, 9, [228]),
  (135, .ireturn, 1, 0, 0, 0, 0, 0, []),
  (136, .aload_n 0, 1, 0, 0, 0, 0, 0, []),
  (137, .getfield 48, 3, 9, 16, 3, 2000, 13, [137]),
  (140, .aload_n 0, 1, 0, 0, 0, 0, 0, []),
  (141, .getfield 205, 3, 9, 15, 0, 0, 0, [158]),
  (144, .iconst 1, 1, 0, 0, 0, 0, 1, []),
  (145, .isub, 1, 0, 0, 0, 0, 0, []),
  (146, .iaload, 1, 0, 0, 0, 0, 0, []),
  (147, .iconst 1, 1, 0, 0, 0, 0, 1, []),
  (148, .iadd, 1, 0, 0, 0, 0, 0, []),
  (149, .ireturn, 1, 0, 0, 0, 0, 0, []),
  (150, .iconst (-1), 1, 0, 0, 0, 0, (-1), []),
  (151, .ireturn, 1, 0, 0, 0, 0, 0, [])]
abbrev kLaw_law : Nat := 263
def cLaw_law : List xE := [(16, .iconst 0, 1, 0, 0, 0, 0, 0, []),
  (17, .istore_n 3, 1, 3, 0, 0, 0, 0, []),
  (18, .iload_n 3, 1, 3, 0, 0, 0, 0, []),
  (19, .aload_n 0, 1, 0, 0, 0, 0, 0, []),
  (20, .arraylength, 1, 0, 0, 0, 0, 0, []),
  (21, .bipush 6, 2, 0, 0, 0, 0, 6, []),
  (23, .isub, 1, 0, 0, 0, 0, 0, []),
  (24, .if_icmp .gt 1244, 3, 1268, 0, 0, 0, 0, []),
  (27, .aload_n 0, 1, 0, 0, 0, 0, 0, []),
  (28, .iload_n 3, 1, 3, 0, 0, 0, 0, []),
  (29, .iaload, 1, 0, 0, 0, 0, 0, []),
  (30, .bipush 31, 2, 0, 0, 0, 0, 31, []),
  (32, .iand, 1, 0, 0, 0, 0, 0, []),
  (33, .tableswitch 1229 0 31 #[143, 206, 229, 242, 295, 328, 381, 434, 447, 460, 483, 506, 539, 572, 625, 668, 702, 735, 759, 792, 816, 850, 883, 926, 959, 992, 1026, 1080, 1124, 1158, 1192, 1206], 143, 1262, 0, 0, 0, 0, [176, 239, 262, 275, 328, 361, 414, 467, 480, 493, 516, 539, 572, 605, 658, 701, 735, 768, 792, 825, 849, 883, 916, 959, 992, 1025, 1059, 1113, 1157, 1191, 1225, 1239]),
  (176, .aload_n 1, 1, 1, 0, 0, 0, 0, []),
  (177, .aload_n 0, 1, 0, 0, 0, 0, 0, []),
  (178, .iload_n 3, 1, 3, 0, 0, 0, 0, []),
  (179, .iconst 1, 1, 0, 0, 0, 0, 1, []),
  (180, .iadd, 1, 0, 0, 0, 0, 0, []),
  (181, .iaload, 1, 0, 0, 0, 0, 0, []),
  (182, .aload_n 0, 1, 0, 0, 0, 0, 0, []),
  (183, .iload_n 3, 1, 3, 0, 0, 0, 0, []),
  (184, .iconst 2, 1, 0, 0, 0, 0, 2, []),
  (185, .iadd, 1, 0, 0, 0, 0, 0, []),
  (186, .iaload, 1, 0, 0, 0, 0, 0, []),
  (187, .aload_n 0, 1, 0, 0, 0, 0, 0, []),
  (188, .iload_n 3, 1, 3, 0, 0, 0, 0, []),
  (189, .iconst 3, 1, 0, 0, 0, 0, 3, []),
  (190, .iadd, 1, 0, 0, 0, 0, 0, []),
  (191, .iaload, 1, 0, 0, 0, 0, 0, []),
  (192, .aload_n 0, 1, 0, 0, 0, 0, 0, []),
  (193, .iload_n 3, 1, 3, 0, 0, 0, 0, []),
  (194, .iconst 4, 1, 0, 0, 0, 0, 4, []),
  (195, .iadd, 1, 0, 0, 0, 0, 0, []),
  (196, .iaload, 1, 0, 0, 0, 0, 0, []),
  (197, .aload_n 0, 1, 0, 0, 0, 0, 0, []),
  (198, .iload_n 3, 1, 3, 0, 0, 0, 0, []),
  (199, .iconst 5, 1, 0, 0, 0, 0, 5, []),
  (200, .iadd, 1, 0, 0, 0, 0, 0, []),
  (201, .iaload, 1, 0, 0, 0, 0, 0, []),
  (202, .invokevirtual 13, 3, 87, 6, 6, 1, 8, [229]),
  (205, .aload_n 2, 1, 2, 0, 0, 0, 0, []),
  (206, .aload_n 0, 1, 0, 0, 0, 0, 0, []),
  (207, .iload_n 3, 1, 3, 0, 0, 0, 0, []),
  (208, .iconst 1, 1, 0, 0, 0, 0, 1, []),
  (209, .iadd, 1, 0, 0, 0, 0, 0, []),
  (210, .iaload, 1, 0, 0, 0, 0, 0, []),
  (211, .aload_n 0, 1, 0, 0, 0, 0, 0, []),
  (212, .iload_n 3, 1, 3, 0, 0, 0, 0, []),
  (213, .iconst 2, 1, 0, 0, 0, 0, 2, []),
  (214, .iadd, 1, 0, 0, 0, 0, 0, []),
  (215, .iaload, 1, 0, 0, 0, 0, 0, []),
  (216, .aload_n 0, 1, 0, 0, 0, 0, 0, []),
  (217, .iload_n 3, 1, 3, 0, 0, 0, 0, []),
  (218, .iconst 3, 1, 0, 0, 0, 0, 3, []),
  (219, .iadd, 1, 0, 0, 0, 0, 0, []),
  (220, .iaload, 1, 0, 0, 0, 0, 0, []),
  (221, .aload_n 0, 1, 0, 0, 0, 0, 0, []),
  (222, .iload_n 3, 1, 3, 0, 0, 0, 0, []),
  (223, .iconst 4, 1, 0, 0, 0, 0, 4, []),
  (224, .iadd, 1, 0, 0, 0, 0, 0, []),
  (225, .iaload, 1, 0, 0, 0, 0, 0, []),
  (226, .aload_n 0, 1, 0, 0, 0, 0, 0, []),
  (227, .iload_n 3, 1, 3, 0, 0, 0, 0, []),
  (228, .iconst 5, 1, 0, 0, 0, 0, 5, []),
  (229, .iadd, 1, 0, 0, 0, 0, 0, []),
  (230, .iaload, 1, 0, 0, 0, 0, 0, []),
  (231, .invokevirtual 17, 3, 196, 6, 8, 1, 9, [230]),
  (234, .if_icmp .eq 1028, 3, 1262, 0, 0, 0, 0, []),
  (237, .iconst 0, 1, 0, 0, 0, 0, 0, []),
  (238, .ireturn, 1, 1, 0, 0, 0, 0, []),
  (239, .aload_n 1, 1, 1, 0, 0, 0, 0, []),
  (240, .aload_n 0, 1, 0, 0, 0, 0, 0, []),
  (241, .iload_n 3, 1, 3, 0, 0, 0, 0, []),
  (242, .iconst 1, 1, 0, 0, 0, 0, 1, []),
  (243, .iadd, 1, 0, 0, 0, 0, 0, []),
  (244, .iaload, 1, 0, 0, 0, 0, 0, []),
  (245, .invokevirtual 18, 3, 88, 2, 2, 1, 8, [231]),
  (248, .aload_n 2, 1, 2, 0, 0, 0, 0, []),
  (249, .aload_n 0, 1, 0, 0, 0, 0, 0, []),
  (250, .iload_n 3, 1, 3, 0, 0, 0, 0, []),
  (251, .iconst 1, 1, 0, 0, 0, 0, 1, []),
  (252, .iadd, 1, 0, 0, 0, 0, 0, []),
  (253, .iaload, 1, 0, 0, 0, 0, 0, []),
  (254, .invokevirtual 22, 3, 197, 2, 2, 1, 9, [232]),
  (257, .if_icmp .eq 1005, 3, 1262, 0, 0, 0, 0, []),
  (260, .iconst 0, 1, 0, 0, 0, 0, 0, []),
  (261, .ireturn, 1, 1, 0, 0, 0, 0, []),
  (262, .aload_n 1, 1, 1, 0, 0, 0, 0, []),
  (263, .invokevirtual 23, 3, 89, 1, 2, 1, 8, [233]),
  (266, .aload_n 2, 1, 2, 0, 0, 0, 0, []),
  (267, .invokevirtual 27, 3, 208, 1, 4, 1, 9, [234]),
  (270, .if_icmp .eq 992, 3, 1262, 0, 0, 0, 0, []),
  (273, .iconst 0, 1, 0, 0, 0, 0, 0, []),
  (274, .ireturn, 1, 1, 0, 0, 0, 0, []),
  (275, .aload_n 1, 1, 1, 0, 0, 0, 0, []),
  (276, .aload_n 0, 1, 0, 0, 0, 0, 0, []),
  (277, .iload_n 3, 1, 3, 0, 0, 0, 0, []),
  (278, .iconst 1, 1, 0, 0, 0, 0, 1, []),
  (279, .iadd, 1, 0, 0, 0, 0, 0, []),
  (280, .iaload, 1, 0, 0, 0, 0, 0, []),
  (281, .aload_n 0, 1, 0, 0, 0, 0, 0, []),
  (282, .iload_n 3, 1, 3, 0, 0, 0, 0, []),
  (283, .iconst 2, 1, 0, 0, 0, 0, 2, []),
  (284, .iadd, 1, 0, 0, 0, 0, 0, []),
  (285, .iaload, 1, 0, 0, 0, 0, 0, []),
  (286, .aload_n 0, 1, 0, 0, 0, 0, 0, []),
  (287, .iload_n 3, 1, 3, 0, 0, 0, 0, []),
  (288, .iconst 3, 1, 0, 0, 0, 0, 3, []),
  (289, .iadd, 1, 0, 0, 0, 0, 0, []),
  (290, .iaload, 1, 0, 0, 0, 0, 0, []),
  (291, .aload_n 0, 1, 0, 0, 0, 0, 0, []),
  (292, .iload_n 3, 1, 3, 0, 0, 0, 0, []),
  (293, .iconst 4, 1, 0, 0, 0, 0, 4, []),
  (294, .iadd, 1, 0, 0, 0, 0, 0, []),
  (295, .iaload, 1, 0, 0, 0, 0, 0, []),
  (296, .invokevirtual 28, 3, 90, 5, 7, 1, 8, [235]),
  (299, .aload_n 2, 1, 2, 0, 0, 0, 0, []),
  (300, .aload_n 0, 1, 0, 0, 0, 0, 0, []),
  (301, .iload_n 3, 1, 3, 0, 0, 0, 0, []),
  (302, .iconst 1, 1, 0, 0, 0, 0, 1, []),
  (303, .iadd, 1, 0, 0, 0, 0, 0, []),
  (304, .iaload, 1, 0, 0, 0, 0, 0, []),
  (305, .aload_n 0, 1, 0, 0, 0, 0, 0, []),
  (306, .iload_n 3, 1, 3, 0, 0, 0, 0, []),
  (307, .iconst 2, 1, 0, 0, 0, 0, 2, []),
  (308, .iadd, 1, 0, 0, 0, 0, 0, []),
  (309, .iaload, 1, 0, 0, 0, 0, 0, []),
  (310, .aload_n 0, 1, 0, 0, 0, 0, 0, []),
  (311, .iload_n 3, 1, 3, 0, 0, 0, 0, []),
  (312, .iconst 3, 1, 0, 0, 0, 0, 3, []),
  (313, .iadd, 1, 0, 0, 0, 0, 0, []),
  (314, .iaload, 1, 0, 0, 0, 0, 0, []),
  (315, .aload_n 0, 1, 0, 0, 0, 0, 0, []),
  (316, .iload_n 3, 1, 3, 0, 0, 0, 0, []),
  (317, .iconst 4, 1, 0, 0, 0, 0, 4, []),
  (318, .iadd, 1, 0, 0, 0, 0, 0, []),
  (319, .iaload, 1, 0, 0, 0, 0, 0, []),
  (320, .invokevirtual 32, 3, 184, 5, 7, 1, 9, [236]),
  (323, .if_icmp .eq 939, 3, 1262, 0, 0, 0, 0, []),
  (326, .iconst 0, 1, 0, 0, 0, 0, 0, []),
  (327, .ireturn, 1, 1, 0, 0, 0, 0, []),
  (328, .aload_n 1, 1, 1, 0, 0, 0, 0, []),
  (329, .aload_n 0, 1, 0, 0, 0, 0, 0, []),
  (330, .iload_n 3, 1, 3, 0, 0, 0, 0, []),
  (331, .iconst 1, 1, 0, 0, 0, 0, 1, []),
  (332, .iadd, 1, 0, 0, 0, 0, 0, []),
  (333, .iaload, 1, 0, 0, 0, 0, 0, []),
  (334, .aload_n 0, 1, 0, 0, 0, 0, 0, []),
  (335, .iload_n 3, 1, 3, 0, 0, 0, 0, []),
  (336, .iconst 2, 1, 0, 0, 0, 0, 2, []),
  (337, .iadd, 1, 0, 0, 0, 0, 0, []),
  (338, .iaload, 1, 0, 0, 0, 0, 0, []),
  (339, .invokevirtual 33, 3, 91, 3, 4, 1, 8, [237]),
  (342, .aload_n 2, 1, 2, 0, 0, 0, 0, []),
  (343, .aload_n 0, 1, 0, 0, 0, 0, 0, []),
  (344, .iload_n 3, 1, 3, 0, 0, 0, 0, []),
  (345, .iconst 1, 1, 0, 0, 0, 0, 1, []),
  (346, .iadd, 1, 0, 0, 0, 0, 0, []),
  (347, .iaload, 1, 0, 0, 0, 0, 0, []),
  (348, .aload_n 0, 1, 0, 0, 0, 0, 0, []),
  (349, .iload_n 3, 1, 3, 0, 0, 0, 0, []),
  (350, .iconst 2, 1, 0, 0, 0, 0, 2, []),
  (351, .iadd, 1, 0, 0, 0, 0, 0, []),
  (352, .iaload, 1, 0, 0, 0, 0, 0, []),
  (353, .invokevirtual 37, 3, 185, 3, 4, 1, 9, [238]),
  (356, .if_icmp .eq 906, 3, 1262, 0, 0, 0, 0, []),
  (359, .iconst 0, 1, 0, 0, 0, 0, 0, []),
  (360, .ireturn, 1, 1, 0, 0, 0, 0, []),
  (361, .aload_n 1, 1, 1, 0, 0, 0, 0, []),
  (362, .aload_n 0, 1, 0, 0, 0, 0, 0, []),
  (363, .iload_n 3, 1, 3, 0, 0, 0, 0, []),
  (364, .iconst 1, 1, 0, 0, 0, 0, 1, []),
  (365, .iadd, 1, 0, 0, 0, 0, 0, []),
  (366, .iaload, 1, 0, 0, 0, 0, 0, []),
  (367, .aload_n 0, 1, 0, 0, 0, 0, 0, []),
  (368, .iload_n 3, 1, 3, 0, 0, 0, 0, []),
  (369, .iconst 2, 1, 0, 0, 0, 0, 2, []),
  (370, .iadd, 1, 0, 0, 0, 0, 0, []),
  (371, .iaload, 1, 0, 0, 0, 0, 0, []),
  (372, .aload_n 0, 1, 0, 0, 0, 0, 0, []),
  (373, .iload_n 3, 1, 3, 0, 0, 0, 0, []),
  (374, .iconst 3, 1, 0, 0, 0, 0, 3, []),
  (375, .iadd, 1, 0, 0, 0, 0, 0, []),
  (376, .iaload, 1, 0, 0, 0, 0, 0, []),
  (377, .aload_n 0, 1, 0, 0, 0, 0, 0, []),
  (378, .iload_n 3, 1, 3, 0, 0, 0, 0, []),
  (379, .iconst 4, 1, 0, 0, 0, 0, 4, []),
  (380, .iadd, 1, 0, 0, 0, 0, 0, []),
  (381, .iaload, 1, 0, 0, 0, 0, 0, []),
  (382, .invokevirtual 38, 3, 92, 5, 10, 1, 8, [239]),
  (385, .aload_n 2, 1, 2, 0, 0, 0, 0, []),
  (386, .aload_n 0, 1, 0, 0, 0, 0, 0, []),
  (387, .iload_n 3, 1, 3, 0, 0, 0, 0, []),
  (388, .iconst 1, 1, 0, 0, 0, 0, 1, []),
  (389, .iadd, 1, 0, 0, 0, 0, 0, []),
  (390, .iaload, 1, 0, 0, 0, 0, 0, []),
  (391, .aload_n 0, 1, 0, 0, 0, 0, 0, []),
  (392, .iload_n 3, 1, 3, 0, 0, 0, 0, []),
  (393, .iconst 2, 1, 0, 0, 0, 0, 2, []),
  (394, .iadd, 1, 0, 0, 0, 0, 0, []),
  (395, .iaload, 1, 0, 0, 0, 0, 0, []),
  (396, .aload_n 0, 1, 0, 0, 0, 0, 0, []),
  (397, .iload_n 3, 1, 3, 0, 0, 0, 0, []),
  (398, .iconst 3, 1, 0, 0, 0, 0, 3, []),
  (399, .iadd, 1, 0, 0, 0, 0, 0, []),
  (400, .iaload, 1, 0, 0, 0, 0, 0, []),
  (401, .aload_n 0, 1, 0, 0, 0, 0, 0, []),
  (402, .iload_n 3, 1, 3, 0, 0, 0, 0, []),
  (403, .iconst 4, 1, 0, 0, 0, 0, 4, []),
  (404, .iadd, 1, 0, 0, 0, 0, 0, []),
  (405, .iaload, 1, 0, 0, 0, 0, 0, []),
  (406, .invokevirtual 41, 3, 189, 5, 10, 1, 9, [240]),
  (409, .if_icmp .eq 853, 3, 1262, 0, 0, 0, 0, []),
  (412, .iconst 0, 1, 0, 0, 0, 0, 0, []),
  (413, .ireturn, 1, 1, 0, 0, 0, 0, []),
  (414, .aload_n 1, 1, 1, 0, 0, 0, 0, []),
  (415, .aload_n 0, 1, 0, 0, 0, 0, 0, []),
  (416, .iload_n 3, 1, 3, 0, 0, 0, 0, []),
  (417, .iconst 1, 1, 0, 0, 0, 0, 1, []),
  (418, .iadd, 1, 0, 0, 0, 0, 0, []),
  (419, .iaload, 1, 0, 0, 0, 0, 0, []),
  (420, .i2l, 1, 0, 0, 0, 0, 0, []),
  (421, .bipush 32, 2, 0, 0, 0, 0, 32, []),
  (423, .lshl, 1, 0, 0, 0, 0, 0, []),
  (424, .aload_n 0, 1, 0, 0, 0, 0, 0, []),
  (425, .iload_n 3, 1, 3, 0, 0, 0, 0, []),
  (426, .iconst 2, 1, 0, 0, 0, 0, 2, []),
  (427, .iadd, 1, 0, 0, 0, 0, 0, []),
  (428, .iaload, 1, 0, 0, 0, 0, 0, []),
  (429, .i2l, 1, 0, 0, 0, 0, 0, []),
  (430, .ldc2_w 42, 3, 0, 0, 0, 0, 4294967295, [37]),
  (433, .land, 1, 0, 0, 0, 0, 0, []),
  (434, .lor, 1, 0, 0, 0, 0, 0, []),
  (435, .invokevirtual 44, 3, 93, 2, 3, 1, 8, [241]),
  (438, .aload_n 2, 1, 2, 0, 0, 0, 0, []),
  (439, .aload_n 0, 1, 0, 0, 0, 0, 0, []),
  (440, .iload_n 3, 1, 3, 0, 0, 0, 0, []),
  (441, .iconst 1, 1, 0, 0, 0, 0, 1, []),
  (442, .iadd, 1, 0, 0, 0, 0, 0, []),
  (443, .iaload, 1, 0, 0, 0, 0, 0, []),
  (444, .i2l, 1, 0, 0, 0, 0, 0, []),
  (445, .bipush 32, 2, 0, 0, 0, 0, 32, []),
  (447, .lshl, 1, 0, 0, 0, 0, 0, []),
  (448, .aload_n 0, 1, 0, 0, 0, 0, 0, []),
  (449, .iload_n 3, 1, 3, 0, 0, 0, 0, []),
  (450, .iconst 2, 1, 0, 0, 0, 0, 2, []),
  (451, .iadd, 1, 0, 0, 0, 0, 0, []),
  (452, .iaload, 1, 0, 0, 0, 0, 0, []),
  (453, .i2l, 1, 0, 0, 0, 0, 0, []),
  (454, .ldc2_w 42, 3, 0, 0, 0, 0, 4294967295, [37]),
  (457, .land, 1, 0, 0, 0, 0, 0, []),
  (458, .lor, 1, 0, 0, 0, 0, 0, []),
  (459, .invokevirtual 48, 3, 195, 2, 3, 1, 9, [242]),
  (462, .if_icmp .eq 800, 3, 1262, 0, 0, 0, 0, []),
  (465, .iconst 0, 1, 0, 0, 0, 0, 0, []),
  (466, .ireturn, 1, 1, 0, 0, 0, 0, []),
  (467, .aload_n 1, 1, 1, 0, 0, 0, 0, []),
  (468, .invokevirtual 49, 3, 94, 1, 1, 1, 8, [243]),
  (471, .aload_n 2, 1, 2, 0, 0, 0, 0, []),
  (472, .invokevirtual 52, 3, 250, 1, 2, 1, 9, [244]),
  (475, .if_icmp .eq 787, 3, 1262, 0, 0, 0, 0, []),
  (478, .iconst 0, 1, 0, 0, 0, 0, 0, []),
  (479, .ireturn, 1, 1, 0, 0, 0, 0, []),
  (480, .aload_n 1, 1, 1, 0, 0, 0, 0, []),
  (481, .invokevirtual 53, 3, 95, 1, 1, 1, 8, [245]),
  (484, .aload_n 2, 1, 2, 0, 0, 0, 0, []),
  (485, .invokevirtual 56, 3, 179, 1, 2, 1, 9, [246]),
  (488, .if_icmp .eq 774, 3, 1262, 0, 0, 0, 0, []),
  (491, .iconst 0, 1, 0, 0, 0, 0, 0, []),
  (492, .ireturn, 1, 1, 0, 0, 0, 0, []),
  (493, .aload_n 1, 1, 1, 0, 0, 0, 0, []),
  (494, .aload_n 0, 1, 0, 0, 0, 0, 0, []),
  (495, .iload_n 3, 1, 3, 0, 0, 0, 0, []),
  (496, .iconst 1, 1, 0, 0, 0, 0, 1, []),
  (497, .iadd, 1, 0, 0, 0, 0, 0, []),
  (498, .iaload, 1, 0, 0, 0, 0, 0, []),
  (499, .invokevirtual 57, 3, 96, 2, 2, 1, 8, [247]),
  (502, .aload_n 2, 1, 2, 0, 0, 0, 0, []),
  (503, .aload_n 0, 1, 0, 0, 0, 0, 0, []),
  (504, .iload_n 3, 1, 3, 0, 0, 0, 0, []),
  (505, .iconst 1, 1, 0, 0, 0, 0, 1, []),
  (506, .iadd, 1, 0, 0, 0, 0, 0, []),
  (507, .iaload, 1, 0, 0, 0, 0, 0, []),
  (508, .invokevirtual 60, 3, 181, 2, 3, 1, 9, [248]),
  (511, .if_icmp .eq 751, 3, 1262, 0, 0, 0, 0, []),
  (514, .iconst 0, 1, 0, 0, 0, 0, 0, []),
  (515, .ireturn, 1, 1, 0, 0, 0, 0, []),
  (516, .aload_n 1, 1, 1, 0, 0, 0, 0, []),
  (517, .aload_n 0, 1, 0, 0, 0, 0, 0, []),
  (518, .iload_n 3, 1, 3, 0, 0, 0, 0, []),
  (519, .iconst 1, 1, 0, 0, 0, 0, 1, []),
  (520, .iadd, 1, 0, 0, 0, 0, 0, []),
  (521, .iaload, 1, 0, 0, 0, 0, 0, []),
  (522, .invokevirtual 61, 3, 97, 2, 2, 1, 8, [249]),
  (525, .aload_n 2, 1, 2, 0, 0, 0, 0, []),
  (526, .aload_n 0, 1, 0, 0, 0, 0, 0, []),
  (527, .iload_n 3, 1, 3, 0, 0, 0, 0, []),
  (528, .iconst 1, 1, 0, 0, 0, 0, 1, []),
  (529, .iadd, 1, 0, 0, 0, 0, 0, []),
  (530, .iaload, 1, 0, 0, 0, 0, 0, []),
  (531, .invokevirtual 64, 3, 182, 2, 3, 1, 9, [250]),
  (534, .if_icmp .eq 728, 3, 1262, 0, 0, 0, 0, []),
  (537, .iconst 0, 1, 0, 0, 0, 0, 0, []),
  (538, .ireturn, 1, 1, 0, 0, 0, 0, []),
  (539, .aload_n 1, 1, 1, 0, 0, 0, 0, []),
  (540, .aload_n 0, 1, 0, 0, 0, 0, 0, []),
  (541, .iload_n 3, 1, 3, 0, 0, 0, 0, []),
  (542, .iconst 1, 1, 0, 0, 0, 0, 1, []),
  (543, .iadd, 1, 0, 0, 0, 0, 0, []),
  (544, .iaload, 1, 0, 0, 0, 0, 0, []),
  (545, .aload_n 0, 1, 0, 0, 0, 0, 0, []),
  (546, .iload_n 3, 1, 3, 0, 0, 0, 0, []),
  (547, .iconst 2, 1, 0, 0, 0, 0, 2, []),
  (548, .iadd, 1, 0, 0, 0, 0, 0, []),
  (549, .iaload, 1, 0, 0, 0, 0, 0, []),
  (550, .invokevirtual 65, 3, 98, 3, 6, 1, 8, [251]),
  (553, .aload_n 2, 1, 2, 0, 0, 0, 0, []),
  (554, .aload_n 0, 1, 0, 0, 0, 0, 0, []),
  (555, .iload_n 3, 1, 3, 0, 0, 0, 0, []),
  (556, .iconst 1, 1, 0, 0, 0, 0, 1, []),
  (557, .iadd, 1, 0, 0, 0, 0, 0, []),
  (558, .iaload, 1, 0, 0, 0, 0, 0, []),
  (559, .aload_n 0, 1, 0, 0, 0, 0, 0, []),
  (560, .iload_n 3, 1, 3, 0, 0, 0, 0, []),
  (561, .iconst 2, 1, 0, 0, 0, 0, 2, []),
  (562, .iadd, 1, 0, 0, 0, 0, 0, []),
  (563, .iaload, 1, 0, 0, 0, 0, 0, []),
  (564, .invokevirtual 68, 3, 214, 3, 5, 1, 9, [252]),
  (567, .if_icmp .eq 695, 3, 1262, 0, 0, 0, 0, []),
  (570, .iconst 0, 1, 0, 0, 0, 0, 0, []),
  (571, .ireturn, 1, 1, 0, 0, 0, 0, []),
  (572, .aload_n 1, 1, 1, 0, 0, 0, 0, []),
  (573, .aload_n 0, 1, 0, 0, 0, 0, 0, []),
  (574, .iload_n 3, 1, 3, 0, 0, 0, 0, []),
  (575, .iconst 1, 1, 0, 0, 0, 0, 1, []),
  (576, .iadd, 1, 0, 0, 0, 0, 0, []),
  (577, .iaload, 1, 0, 0, 0, 0, 0, []),
  (578, .aload_n 0, 1, 0, 0, 0, 0, 0, []),
  (579, .iload_n 3, 1, 3, 0, 0, 0, 0, []),
  (580, .iconst 2, 1, 0, 0, 0, 0, 2, []),
  (581, .iadd, 1, 0, 0, 0, 0, 0, []),
  (582, .iaload, 1, 0, 0, 0, 0, 0, []),
  (583, .invokevirtual 69, 3, 99, 3, 4, 1, 8, [253]),
  (586, .aload_n 2, 1, 2, 0, 0, 0, 0, []),
  (587, .aload_n 0, 1, 0, 0, 0, 0, 0, []),
  (588, .iload_n 3, 1, 3, 0, 0, 0, 0, []),
  (589, .iconst 1, 1, 0, 0, 0, 0, 1, []),
  (590, .iadd, 1, 0, 0, 0, 0, 0, []),
  (591, .iaload, 1, 0, 0, 0, 0, 0, []),
  (592, .aload_n 0, 1, 0, 0, 0, 0, 0, []),
  (593, .iload_n 3, 1, 3, 0, 0, 0, 0, []),
  (594, .iconst 2, 1, 0, 0, 0, 0, 2, []),
  (595, .iadd, 1, 0, 0, 0, 0, 0, []),
  (596, .iaload, 1, 0, 0, 0, 0, 0, []),
  (597, .invokevirtual 72, 3, 215, 3, 3, 1, 9, [254]),
  (600, .if_icmp .eq 662, 3, 1262, 0, 0, 0, 0, []),
  (603, .iconst 0, 1, 0, 0, 0, 0, 0, []),
  (604, .ireturn, 1, 1, 0, 0, 0, 0, []),
  (605, .aload_n 1, 1, 1, 0, 0, 0, 0, []),
  (606, .aload_n 0, 1, 0, 0, 0, 0, 0, []),
  (607, .iload_n 3, 1, 3, 0, 0, 0, 0, []),
  (608, .iconst 1, 1, 0, 0, 0, 0, 1, []),
  (609, .iadd, 1, 0, 0, 0, 0, 0, []),
  (610, .iaload, 1, 0, 0, 0, 0, 0, []),
  (611, .aload_n 0, 1, 0, 0, 0, 0, 0, []),
  (612, .iload_n 3, 1, 3, 0, 0, 0, 0, []),
  (613, .iconst 2, 1, 0, 0, 0, 0, 2, []),
  (614, .iadd, 1, 0, 0, 0, 0, 0, []),
  (615, .iaload, 1, 0, 0, 0, 0, 0, []),
  (616, .aload_n 0, 1, 0, 0, 0, 0, 0, []),
  (617, .iload_n 3, 1, 3, 0, 0, 0, 0, []),
  (618, .iconst 3, 1, 0, 0, 0, 0, 3, []),
  (619, .iadd, 1, 0, 0, 0, 0, 0, []),
  (620, .iaload, 1, 0, 0, 0, 0, 0, []),
  (621, .aload_n 0, 1, 0, 0, 0, 0, 0, []),
  (622, .iload_n 3, 1, 3, 0, 0, 0, 0, []),
  (623, .iconst 4, 1, 0, 0, 0, 0, 4, []),
  (624, .iadd, 1, 0, 0, 0, 0, 0, []),
  (625, .iaload, 1, 0, 0, 0, 0, 0, []),
  (626, .invokevirtual 73, 3, 100, 5, 7, 1, 8, [255]),
  (629, .aload_n 2, 1, 2, 0, 0, 0, 0, []),
  (630, .aload_n 0, 1, 0, 0, 0, 0, 0, []),
  (631, .iload_n 3, 1, 3, 0, 0, 0, 0, []),
  (632, .iconst 1, 1, 0, 0, 0, 0, 1, []),
  (633, .iadd, 1, 0, 0, 0, 0, 0, []),
  (634, .iaload, 1, 0, 0, 0, 0, 0, []),
  (635, .aload_n 0, 1, 0, 0, 0, 0, 0, []),
  (636, .iload_n 3, 1, 3, 0, 0, 0, 0, []),
  (637, .iconst 2, 1, 0, 0, 0, 0, 2, []),
  (638, .iadd, 1, 0, 0, 0, 0, 0, []),
  (639, .iaload, 1, 0, 0, 0, 0, 0, []),
  (640, .aload_n 0, 1, 0, 0, 0, 0, 0, []),
  (641, .iload_n 3, 1, 3, 0, 0, 0, 0, []),
  (642, .iconst 3, 1, 0, 0, 0, 0, 3, []),
  (643, .iadd, 1, 0, 0, 0, 0, 0, []),
  (644, .iaload, 1, 0, 0, 0, 0, 0, []),
  (645, .aload_n 0, 1, 0, 0, 0, 0, 0, []),
  (646, .iload_n 3, 1, 3, 0, 0, 0, 0, []),
  (647, .iconst 4, 1, 0, 0, 0, 0, 4, []),
  (648, .iadd, 1, 0, 0, 0, 0, 0, []),
  (649, .iaload, 1, 0, 0, 0, 0, 0, []),
  (650, .invokevirtual 76, 3, 186, 5, 9, 1, 9, [256]),
  (653, .if_icmp .eq 609, 3, 1262, 0, 0, 0, 0, []),
  (656, .iconst 0, 1, 0, 0, 0, 0, 0, []),
  (657, .ireturn, 1, 1, 0, 0, 0, 0, []),
  (658, .aload_n 1, 1, 1, 0, 0, 0, 0, []),
  (659, .aload_n 0, 1, 0, 0, 0, 0, 0, []),
  (660, .iload_n 3, 1, 3, 0, 0, 0, 0, []),
  (661, .iconst 1, 1, 0, 0, 0, 0, 1, []),
  (662, .iadd, 1, 0, 0, 0, 0, 0, []),
  (663, .iaload, 1, 0, 0, 0, 0, 0, []),
  (664, .aload_n 0, 1, 0, 0, 0, 0, 0, []),
  (665, .iload_n 3, 1, 3, 0, 0, 0, 0, []),
  (666, .iconst 2, 1, 0, 0, 0, 0, 2, []),
  (667, .iadd, 1, 0, 0, 0, 0, 0, []),
  (668, .iaload, 1, 0, 0, 0, 0, 0, []),
  (669, .aload_n 0, 1, 0, 0, 0, 0, 0, []),
  (670, .iload_n 3, 1, 3, 0, 0, 0, 0, []),
  (671, .iconst 3, 1, 0, 0, 0, 0, 3, []),
  (672, .iadd, 1, 0, 0, 0, 0, 0, []),
  (673, .iaload, 1, 0, 0, 0, 0, 0, []),
  (674, .invokevirtual 77, 3, 101, 4, 8, 1, 8, [257]),
  (677, .aload_n 2, 1, 2, 0, 0, 0, 0, []),
  (678, .aload_n 0, 1, 0, 0, 0, 0, 0, []),
  (679, .iload_n 3, 1, 3, 0, 0, 0, 0, []),
  (680, .iconst 1, 1, 0, 0, 0, 0, 1, []),
  (681, .iadd, 1, 0, 0, 0, 0, 0, []),
  (682, .iaload, 1, 0, 0, 0, 0, 0, []),
  (683, .aload_n 0, 1, 0, 0, 0, 0, 0, []),
  (684, .iload_n 3, 1, 3, 0, 0, 0, 0, []),
  (685, .iconst 2, 1, 0, 0, 0, 0, 2, []),
  (686, .iadd, 1, 0, 0, 0, 0, 0, []),
  (687, .iaload, 1, 0, 0, 0, 0, 0, []),
  (688, .aload_n 0, 1, 0, 0, 0, 0, 0, []),
  (689, .iload_n 3, 1, 3, 0, 0, 0, 0, []),
  (690, .iconst 3, 1, 0, 0, 0, 0, 3, []),
  (691, .iadd, 1, 0, 0, 0, 0, 0, []),
  (692, .iaload, 1, 0, 0, 0, 0, 0, []),
  (693, .invokevirtual 81, 3, 216, 4, 6, 1, 9, [258]),
  (696, .if_icmp .eq 566, 3, 1262, 0, 0, 0, 0, []),
  (699, .iconst 0, 1, 0, 0, 0, 0, 0, []),
  (700, .ireturn, 1, 1, 0, 0, 0, 0, []),
  (701, .aload_n 1, 1, 1, 0, 0, 0, 0, []),
  (702, .aload_n 0, 1, 0, 0, 0, 0, 0, []),
  (703, .iload_n 3, 1, 3, 0, 0, 0, 0, []),
  (704, .iconst 1, 1, 0, 0, 0, 0, 1, []),
  (705, .iadd, 1, 0, 0, 0, 0, 0, []),
  (706, .iaload, 1, 0, 0, 0, 0, 0, []),
  (707, .aload_n 0, 1, 0, 0, 0, 0, 0, []),
  (708, .iload_n 3, 1, 3, 0, 0, 0, 0, []),
  (709, .iconst 2, 1, 0, 0, 0, 0, 2, []),
  (710, .iadd, 1, 0, 0, 0, 0, 0, []),
  (711, .iaload, 1, 0, 0, 0, 0, 0, []),
  (712, .invokevirtual 82, 3, 102, 3, 3, 1, 8, [259]),
  (715, .aload_n 2, 1, 2, 0, 0, 0, 0, []),
  (716, .aload_n 0, 1, 0, 0, 0, 0, 0, []),
  (717, .iload_n 3, 1, 3, 0, 0, 0, 0, []),
  (718, .iconst 1, 1, 0, 0, 0, 0, 1, []),
  (719, .iadd, 1, 0, 0, 0, 0, 0, []),
  (720, .iaload, 1, 0, 0, 0, 0, 0, []),
  (721, .aload_n 0, 1, 0, 0, 0, 0, 0, []),
  (722, .iload_n 3, 1, 3, 0, 0, 0, 0, []),
  (723, .iconst 2, 1, 0, 0, 0, 0, 2, []),
  (724, .iadd, 1, 0, 0, 0, 0, 0, []),
  (725, .iaload, 1, 0, 0, 0, 0, 0, []),
  (726, .invokevirtual 86, 3, 217, 3, 13, 1, 9, [260]),
  (729, .lcmp, 4, 1262, 0, 0, 0, 0, []),
  (733, .iconst 0, 1, 0, 0, 0, 0, 0, []),
  (734, .ireturn, 1, 1, 0, 0, 0, 0, []),
  (735, .aload_n 1, 1, 1, 0, 0, 0, 0, []),
  (736, .aload_n 0, 1, 0, 0, 0, 0, 0, []),
  (737, .iload_n 3, 1, 3, 0, 0, 0, 0, []),
  (738, .iconst 1, 1, 0, 0, 0, 0, 1, []),
  (739, .iadd, 1, 0, 0, 0, 0, 0, []),
  (740, .iaload, 1, 0, 0, 0, 0, 0, []),
  (741, .aload_n 0, 1, 0, 0, 0, 0, 0, []),
  (742, .iload_n 3, 1, 3, 0, 0, 0, 0, []),
  (743, .iconst 2, 1, 0, 0, 0, 0, 2, []),
  (744, .iadd, 1, 0, 0, 0, 0, 0, []),
  (745, .iaload, 1, 0, 0, 0, 0, 0, []),
  (746, .invokevirtual 87, 3, 103, 3, 3, 1, 8, [261]),
  (749, .aload_n 2, 1, 2, 0, 0, 0, 0, []),
  (750, .aload_n 0, 1, 0, 0, 0, 0, 0, []),
  (751, .iload_n 3, 1, 3, 0, 0, 0, 0, []),
  (752, .iconst 1, 1, 0, 0, 0, 0, 1, []),
  (753, .iadd, 1, 0, 0, 0, 0, 0, []),
  (754, .iaload, 1, 0, 0, 0, 0, 0, []),
  (755, .aload_n 0, 1, 0, 0, 0, 0, 0, []),
  (756, .iload_n 3, 1, 3, 0, 0, 0, 0, []),
  (757, .iconst 2, 1, 0, 0, 0, 0, 2, []),
  (758, .iadd, 1, 0, 0, 0, 0, 0, []),
  (759, .iaload, 1, 0, 0, 0, 0, 0, []),
  (760, .invokevirtual 90, 3, 221, 3, 3, 1, 9, [262]),
  (763, .if_icmp .eq 499, 3, 1262, 0, 0, 0, 0, []),
  (766, .iconst 0, 1, 0, 0, 0, 0, 0, []),
  (767, .ireturn, 1, 1, 0, 0, 0, 0, []),
  (768, .aload_n 1, 1, 1, 0, 0, 0, 0, []),
  (769, .aload_n 0, 1, 0, 0, 0, 0, 0, []),
  (770, .iload_n 3, 1, 3, 0, 0, 0, 0, []),
  (771, .iconst 1, 1, 0, 0, 0, 0, 1, []),
  (772, .iadd, 1, 0, 0, 0, 0, 0, []),
  (773, .iaload, 1, 0, 0, 0, 0, 0, []),
  (774, .invokevirtual 91, 3, 104, 2, 2, 1, 8, [263]),
  (777, .aload_n 2, 1, 2, 0, 0, 0, 0, []),
  (778, .aload_n 0, 1, 0, 0, 0, 0, 0, []),
  (779, .iload_n 3, 1, 3, 0, 0, 0, 0, []),
  (780, .iconst 1, 1, 0, 0, 0, 0, 1, []),
  (781, .iadd, 1, 0, 0, 0, 0, 0, []),
  (782, .iaload, 1, 0, 0, 0, 0, 0, []),
  (783, .invokevirtual 95, 3, 222, 2, 2, 1, 9, [264]),
  (786, .lcmp, 4, 1262, 0, 0, 0, 0, []),
  (790, .iconst 0, 1, 0, 0, 0, 0, 0, []),
  (791, .ireturn, 1, 1, 0, 0, 0, 0, []),
  (792, .aload_n 1, 1, 1, 0, 0, 0, 0, []),
  (793, .aload_n 0, 1, 0, 0, 0, 0, 0, []),
  (794, .iload_n 3, 1, 3, 0, 0, 0, 0, []),
  (795, .iconst 1, 1, 0, 0, 0, 0, 1, []),
  (796, .iadd, 1, 0, 0, 0, 0, 0, []),
  (797, .iaload, 1, 0, 0, 0, 0, 0, []),
  (798, .aload_n 0, 1, 0, 0, 0, 0, 0, []),
  (799, .iload_n 3, 1, 3, 0, 0, 0, 0, []),
  (800, .iconst 2, 1, 0, 0, 0, 0, 2, []),
  (801, .iadd, 1, 0, 0, 0, 0, 0, []),
  (802, .iaload, 1, 0, 0, 0, 0, 0, []),
  (803, .invokevirtual 96, 3, 105, 3, 3, 1, 8, [265]),
  (806, .aload_n 2, 1, 2, 0, 0, 0, 0, []),
  (807, .aload_n 0, 1, 0, 0, 0, 0, 0, []),
  (808, .iload_n 3, 1, 3, 0, 0, 0, 0, []),
  (809, .iconst 1, 1, 0, 0, 0, 0, 1, []),
  (810, .iadd, 1, 0, 0, 0, 0, 0, []),
  (811, .iaload, 1, 0, 0, 0, 0, 0, []),
  (812, .aload_n 0, 1, 0, 0, 0, 0, 0, []),
  (813, .iload_n 3, 1, 3, 0, 0, 0, 0, []),
  (814, .iconst 2, 1, 0, 0, 0, 0, 2, []),
  (815, .iadd, 1, 0, 0, 0, 0, 0, []),
  (816, .iaload, 1, 0, 0, 0, 0, 0, []),
  (817, .invokevirtual 99, 3, 224, 3, 3, 1, 9, [266]),
  (820, .if_icmp .eq 442, 3, 1262, 0, 0, 0, 0, []),
  (823, .iconst 0, 1, 0, 0, 0, 0, 0, []),
  (824, .ireturn, 1, 1, 0, 0, 0, 0, []),
  (825, .aload_n 1, 1, 1, 0, 0, 0, 0, []),
  (826, .aload_n 0, 1, 0, 0, 0, 0, 0, []),
  (827, .iload_n 3, 1, 3, 0, 0, 0, 0, []),
  (828, .iconst 1, 1, 0, 0, 0, 0, 1, []),
  (829, .iadd, 1, 0, 0, 0, 0, 0, []),
  (830, .iaload, 1, 0, 0, 0, 0, 0, []),
  (831, .invokevirtual 100, 3, 106, 2, 2, 1, 8, [267]),
  (834, .aload_n 2, 1, 2, 0, 0, 0, 0, []),
  (835, .aload_n 0, 1, 0, 0, 0, 0, 0, []),
  (836, .iload_n 3, 1, 3, 0, 0, 0, 0, []),
  (837, .iconst 1, 1, 0, 0, 0, 0, 1, []),
  (838, .iadd, 1, 0, 0, 0, 0, 0, []),
  (839, .iaload, 1, 0, 0, 0, 0, 0, []),
  (840, .invokevirtual 103, 3, 225, 2, 6, 1, 9, [268]),
  (843, .lcmp, 4, 1262, 0, 0, 0, 0, []),
  (847, .iconst 0, 1, 0, 0, 0, 0, 0, []),
  (848, .ireturn, 1, 1, 0, 0, 0, 0, []),
  (849, .aload_n 1, 1, 1, 0, 0, 0, 0, []),
  (850, .aload_n 0, 1, 0, 0, 0, 0, 0, []),
  (851, .iload_n 3, 1, 3, 0, 0, 0, 0, []),
  (852, .iconst 1, 1, 0, 0, 0, 0, 1, []),
  (853, .iadd, 1, 0, 0, 0, 0, 0, []),
  (854, .iaload, 1, 0, 0, 0, 0, 0, []),
  (855, .aload_n 0, 1, 0, 0, 0, 0, 0, []),
  (856, .iload_n 3, 1, 3, 0, 0, 0, 0, []),
  (857, .iconst 2, 1, 0, 0, 0, 0, 2, []),
  (858, .iadd, 1, 0, 0, 0, 0, 0, []),
  (859, .iaload, 1, 0, 0, 0, 0, 0, []),
  (860, .invokevirtual 104, 3, 107, 3, 3, 1, 8, [269]),
  (863, .aload_n 2, 1, 2, 0, 0, 0, 0, []),
  (864, .aload_n 0, 1, 0, 0, 0, 0, 0, []),
  (865, .iload_n 3, 1, 3, 0, 0, 0, 0, []),
  (866, .iconst 1, 1, 0, 0, 0, 0, 1, []),
  (867, .iadd, 1, 0, 0, 0, 0, 0, []),
  (868, .iaload, 1, 0, 0, 0, 0, 0, []),
  (869, .aload_n 0, 1, 0, 0, 0, 0, 0, []),
  (870, .iload_n 3, 1, 3, 0, 0, 0, 0, []),
  (871, .iconst 2, 1, 0, 0, 0, 0, 2, []),
  (872, .iadd, 1, 0, 0, 0, 0, 0, []),
  (873, .iaload, 1, 0, 0, 0, 0, 0, []),
  (874, .invokevirtual 107, 3, 228, 3, 3, 1, 9, [270]),
  (877, .lcmp, 4, 1262, 0, 0, 0, 0, []),
  (881, .iconst 0, 1, 0, 0, 0, 0, 0, []),
  (882, .ireturn, 1, 1, 0, 0, 0, 0, []),
  (883, .aload_n 1, 1, 1, 0, 0, 0, 0, []),
  (884, .aload_n 0, 1, 0, 0, 0, 0, 0, []),
  (885, .iload_n 3, 1, 3, 0, 0, 0, 0, []),
  (886, .iconst 1, 1, 0, 0, 0, 0, 1, []),
  (887, .iadd, 1, 0, 0, 0, 0, 0, []),
  (888, .iaload, 1, 0, 0, 0, 0, 0, []),
  (889, .aload_n 0, 1, 0, 0, 0, 0, 0, []),
  (890, .iload_n 3, 1, 3, 0, 0, 0, 0, []),
  (891, .iconst 2, 1, 0, 0, 0, 0, 2, []),
  (892, .iadd, 1, 0, 0, 0, 0, 0, []),
  (893, .iaload, 1, 0, 0, 0, 0, 0, []),
  (894, .invokevirtual 108, 3, 108, 3, 3, 1, 8, [271]),
  (897, .aload_n 2, 1, 2, 0, 0, 0, 0, []),
  (898, .aload_n 0, 1, 0, 0, 0, 0, 0, []),
  (899, .iload_n 3, 1, 3, 0, 0, 0, 0, []),
  (900, .iconst 1, 1, 0, 0, 0, 0, 1, []),
  (901, .iadd, 1, 0, 0, 0, 0, 0, []),
  (902, .iaload, 1, 0, 0, 0, 0, 0, []),
  (903, .aload_n 0, 1, 0, 0, 0, 0, 0, []),
  (904, .iload_n 3, 1, 3, 0, 0, 0, 0, []),
  (905, .iconst 2, 1, 0, 0, 0, 0, 2, []),
  (906, .iadd, 1, 0, 0, 0, 0, 0, []),
  (907, .iaload, 1, 0, 0, 0, 0, 0, []),
  (908, .invokevirtual 111, 3, 230, 3, 3, 1, 9, [272]),
  (911, .if_icmp .eq 351, 3, 1262, 0, 0, 0, 0, []),
  (914, .iconst 0, 1, 0, 0, 0, 0, 0, []),
  (915, .ireturn, 1, 1, 0, 0, 0, 0, []),
  (916, .aload_n 1, 1, 1, 0, 0, 0, 0, []),
  (917, .aload_n 0, 1, 0, 0, 0, 0, 0, []),
  (918, .iload_n 3, 1, 3, 0, 0, 0, 0, []),
  (919, .iconst 1, 1, 0, 0, 0, 0, 1, []),
  (920, .iadd, 1, 0, 0, 0, 0, 0, []),
  (921, .iaload, 1, 0, 0, 0, 0, 0, []),
  (922, .aload_n 0, 1, 0, 0, 0, 0, 0, []),
  (923, .iload_n 3, 1, 3, 0, 0, 0, 0, []),
  (924, .iconst 2, 1, 0, 0, 0, 0, 2, []),
  (925, .iadd, 1, 0, 0, 0, 0, 0, []),
  (926, .iaload, 1, 0, 0, 0, 0, 0, []),
  (927, .aload_n 0, 1, 0, 0, 0, 0, 0, []),
  (928, .iload_n 3, 1, 3, 0, 0, 0, 0, []),
  (929, .iconst 3, 1, 0, 0, 0, 0, 3, []),
  (930, .iadd, 1, 0, 0, 0, 0, 0, []),
  (931, .iaload, 1, 0, 0, 0, 0, 0, []),
  (932, .invokevirtual 112, 3, 109, 4, 5, 1, 8, [273]),
  (935, .aload_n 2, 1, 2, 0, 0, 0, 0, []),
  (936, .aload_n 0, 1, 0, 0, 0, 0, 0, []),
  (937, .iload_n 3, 1, 3, 0, 0, 0, 0, []),
  (938, .iconst 1, 1, 0, 0, 0, 0, 1, []),
  (939, .iadd, 1, 0, 0, 0, 0, 0, []),
  (940, .iaload, 1, 0, 0, 0, 0, 0, []),
  (941, .aload_n 0, 1, 0, 0, 0, 0, 0, []),
  (942, .iload_n 3, 1, 3, 0, 0, 0, 0, []),
  (943, .iconst 2, 1, 0, 0, 0, 0, 2, []),
  (944, .iadd, 1, 0, 0, 0, 0, 0, []),
  (945, .iaload, 1, 0, 0, 0, 0, 0, []),
  (946, .aload_n 0, 1, 0, 0, 0, 0, 0, []),
  (947, .iload_n 3, 1, 3, 0, 0, 0, 0, []),
  (948, .iconst 3, 1, 0, 0, 0, 0, 3, []),
  (949, .iadd, 1, 0, 0, 0, 0, 0, []),
  (950, .iaload, 1, 0, 0, 0, 0, 0, []),
  (951, .invokevirtual 115, 3, 233, 4, 5, 1, 9, [274]),
  (954, .if_icmp .eq 308, 3, 1262, 0, 0, 0, 0, []),
  (957, .iconst 0, 1, 0, 0, 0, 0, 0, []),
  (958, .ireturn, 1, 1, 0, 0, 0, 0, []),
  (959, .aload_n 1, 1, 1, 0, 0, 0, 0, []),
  (960, .aload_n 0, 1, 0, 0, 0, 0, 0, []),
  (961, .iload_n 3, 1, 3, 0, 0, 0, 0, []),
  (962, .iconst 1, 1, 0, 0, 0, 0, 1, []),
  (963, .iadd, 1, 0, 0, 0, 0, 0, []),
  (964, .iaload, 1, 0, 0, 0, 0, 0, []),
  (965, .aload_n 0, 1, 0, 0, 0, 0, 0, []),
  (966, .iload_n 3, 1, 3, 0, 0, 0, 0, []),
  (967, .iconst 2, 1, 0, 0, 0, 0, 2, []),
  (968, .iadd, 1, 0, 0, 0, 0, 0, []),
  (969, .iaload, 1, 0, 0, 0, 0, 0, []),
  (970, .invokevirtual 116, 3, 110, 3, 3, 1, 8, [275]),
  (973, .aload_n 2, 1, 2, 0, 0, 0, 0, []),
  (974, .aload_n 0, 1, 0, 0, 0, 0, 0, []),
  (975, .iload_n 3, 1, 3, 0, 0, 0, 0, []),
  (976, .iconst 1, 1, 0, 0, 0, 0, 1, []),
  (977, .iadd, 1, 0, 0, 0, 0, 0, []),
  (978, .iaload, 1, 0, 0, 0, 0, 0, []),
  (979, .aload_n 0, 1, 0, 0, 0, 0, 0, []),
  (980, .iload_n 3, 1, 3, 0, 0, 0, 0, []),
  (981, .iconst 2, 1, 0, 0, 0, 0, 2, []),
  (982, .iadd, 1, 0, 0, 0, 0, 0, []),
  (983, .iaload, 1, 0, 0, 0, 0, 0, []),
  (984, .invokevirtual 119, 3, 237, 3, 3, 1, 9, [276]),
  (987, .if_icmp .eq 275, 3, 1262, 0, 0, 0, 0, []),
  (990, .iconst 0, 1, 0, 0, 0, 0, 0, []),
  (991, .ireturn, 1, 1, 0, 0, 0, 0, []),
  (992, .aload_n 1, 1, 1, 0, 0, 0, 0, []),
  (993, .aload_n 0, 1, 0, 0, 0, 0, 0, []),
  (994, .iload_n 3, 1, 3, 0, 0, 0, 0, []),
  (995, .iconst 1, 1, 0, 0, 0, 0, 1, []),
  (996, .iadd, 1, 0, 0, 0, 0, 0, []),
  (997, .iaload, 1, 0, 0, 0, 0, 0, []),
  (998, .aload_n 0, 1, 0, 0, 0, 0, 0, []),
  (999, .iload_n 3, 1, 3, 0, 0, 0, 0, []),
  (1000, .iconst 2, 1, 0, 0, 0, 0, 2, []),
  (1001, .iadd, 1, 0, 0, 0, 0, 0, []),
  (1002, .iaload, 1, 0, 0, 0, 0, 0, []),
  (1003, .invokevirtual 120, 3, 111, 3, 3, 1, 8, [277]),
  (1006, .aload_n 2, 1, 2, 0, 0, 0, 0, []),
  (1007, .aload_n 0, 1, 0, 0, 0, 0, 0, []),
  (1008, .iload_n 3, 1, 3, 0, 0, 0, 0, []),
  (1009, .iconst 1, 1, 0, 0, 0, 0, 1, []),
  (1010, .iadd, 1, 0, 0, 0, 0, 0, []),
  (1011, .iaload, 1, 0, 0, 0, 0, 0, []),
  (1012, .aload_n 0, 1, 0, 0, 0, 0, 0, []),
  (1013, .iload_n 3, 1, 3, 0, 0, 0, 0, []),
  (1014, .iconst 2, 1, 0, 0, 0, 0, 2, []),
  (1015, .iadd, 1, 0, 0, 0, 0, 0, []),
  (1016, .iaload, 1, 0, 0, 0, 0, 0, []),
  (1017, .invokevirtual 123, 3, 240, 3, 3, 1, 9, [278]),
  (1020, .if_icmp .eq 242, 3, 1262, 0, 0, 0, 0, []),
  (1023, .iconst 0, 1, 0, 0, 0, 0, 0, []),
  (1024, .ireturn, 1, 1, 0, 0, 0, 0, []),
  (1025, .aload_n 1, 1, 1, 0, 0, 0, 0, []),
  (1026, .aload_n 0, 1, 0, 0, 0, 0, 0, []),
  (1027, .iload_n 3, 1, 3, 0, 0, 0, 0, []),
  (1028, .iconst 1, 1, 0, 0, 0, 0, 1, []),
  (1029, .iadd, 1, 0, 0, 0, 0, 0, []),
  (1030, .iaload, 1, 0, 0, 0, 0, 0, []),
  (1031, .aload_n 0, 1, 0, 0, 0, 0, 0, []),
  (1032, .iload_n 3, 1, 3, 0, 0, 0, 0, []),
  (1033, .iconst 2, 1, 0, 0, 0, 0, 2, []),
  (1034, .iadd, 1, 0, 0, 0, 0, 0, []),
  (1035, .iaload, 1, 0, 0, 0, 0, 0, []),
  (1036, .invokevirtual 124, 3, 112, 3, 3, 1, 8, [279]),
  (1039, .aload_n 2, 1, 2, 0, 0, 0, 0, []),
  (1040, .aload_n 0, 1, 0, 0, 0, 0, 0, []),
  (1041, .iload_n 3, 1, 3, 0, 0, 0, 0, []),
  (1042, .iconst 1, 1, 0, 0, 0, 0, 1, []),
  (1043, .iadd, 1, 0, 0, 0, 0, 0, []),
  (1044, .iaload, 1, 0, 0, 0, 0, 0, []),
  (1045, .aload_n 0, 1, 0, 0, 0, 0, 0, []),
  (1046, .iload_n 3, 1, 3, 0, 0, 0, 0, []),
  (1047, .iconst 2, 1, 0, 0, 0, 0, 2, []),
  (1048, .iadd, 1, 0, 0, 0, 0, 0, []),
  (1049, .iaload, 1, 0, 0, 0, 0, 0, []),
  (1050, .invokevirtual 127, 3, 241, 3, 3, 1, 9, [280]),
  (1053, .lcmp, 4, 1262, 0, 0, 0, 0, []),
  (1057, .iconst 0, 1, 0, 0, 0, 0, 0, []),
  (1058, .ireturn, 1, 1, 0, 0, 0, 0, []),
  (1059, .aload_n 1, 1, 1, 0, 0, 0, 0, []),
  (1060, .aload_n 0, 1, 0, 0, 0, 0, 0, []),
  (1061, .iload_n 3, 1, 3, 0, 0, 0, 0, []),
  (1062, .iconst 1, 1, 0, 0, 0, 0, 1, []),
  (1063, .iadd, 1, 0, 0, 0, 0, 0, []),
  (1064, .iaload, 1, 0, 0, 0, 0, 0, []),
  (1065, .aload_n 0, 1, 0, 0, 0, 0, 0, []),
  (1066, .iload_n 3, 1, 3, 0, 0, 0, 0, []),
  (1067, .iconst 2, 1, 0, 0, 0, 0, 2, []),
  (1068, .iadd, 1, 0, 0, 0, 0, 0, []),
  (1069, .iaload, 1, 0, 0, 0, 0, 0, []),
  (1070, .aload_n 0, 1, 0, 0, 0, 0, 0, []),
  (1071, .iload_n 3, 1, 3, 0, 0, 0, 0, []),
  (1072, .iconst 3, 1, 0, 0, 0, 0, 3, []),
  (1073, .iadd, 1, 0, 0, 0, 0, 0, []),
  (1074, .iaload, 1, 0, 0, 0, 0, 0, []),
  (1075, .aload_n 0, 1, 0, 0, 0, 0, 0, []),
  (1076, .iload_n 3, 1, 3, 0, 0, 0, 0, []),
  (1077, .iconst 4, 1, 0, 0, 0, 0, 4, []),
  (1078, .iadd, 1, 0, 0, 0, 0, 0, []),
  (1079, .iaload, 1, 0, 0, 0, 0, 0, []),
  (1080, .invokevirtual 128, 3, 113, 5, 5, 1, 8, [281]),
  (1083, .aload_n 2, 1, 2, 0, 0, 0, 0, []),
  (1084, .aload_n 0, 1, 0, 0, 0, 0, 0, []),
  (1085, .iload_n 3, 1, 3, 0, 0, 0, 0, []),
  (1086, .iconst 1, 1, 0, 0, 0, 0, 1, []),
  (1087, .iadd, 1, 0, 0, 0, 0, 0, []),
  (1088, .iaload, 1, 0, 0, 0, 0, 0, []),
  (1089, .aload_n 0, 1, 0, 0, 0, 0, 0, []),
  (1090, .iload_n 3, 1, 3, 0, 0, 0, 0, []),
  (1091, .iconst 2, 1, 0, 0, 0, 0, 2, []),
  (1092, .iadd, 1, 0, 0, 0, 0, 0, []),
  (1093, .iaload, 1, 0, 0, 0, 0, 0, []),
  (1094, .aload_n 0, 1, 0, 0, 0, 0, 0, []),
  (1095, .iload_n 3, 1, 3, 0, 0, 0, 0, []),
  (1096, .iconst 3, 1, 0, 0, 0, 0, 3, []),
  (1097, .iadd, 1, 0, 0, 0, 0, 0, []),
  (1098, .iaload, 1, 0, 0, 0, 0, 0, []),
  (1099, .aload_n 0, 1, 0, 0, 0, 0, 0, []),
  (1100, .iload_n 3, 1, 3, 0, 0, 0, 0, []),
  (1101, .iconst 4, 1, 0, 0, 0, 0, 4, []),
  (1102, .iadd, 1, 0, 0, 0, 0, 0, []),
  (1103, .iaload, 1, 0, 0, 0, 0, 0, []),
  (1104, .invokevirtual 132, 3, 188, 5, 5, 1, 9, [282]),
  (1107, .lcmp, 4, 1262, 0, 0, 0, 0, []),
  (1111, .iconst 0, 1, 0, 0, 0, 0, 0, []),
  (1112, .ireturn, 1, 1, 0, 0, 0, 0, []),
  (1113, .aload_n 1, 1, 1, 0, 0, 0, 0, []),
  (1114, .aload_n 0, 1, 0, 0, 0, 0, 0, []),
  (1115, .iload_n 3, 1, 3, 0, 0, 0, 0, []),
  (1116, .iconst 1, 1, 0, 0, 0, 0, 1, []),
  (1117, .iadd, 1, 0, 0, 0, 0, 0, []),
  (1118, .iaload, 1, 0, 0, 0, 0, 0, []),
  (1119, .aload_n 0, 1, 0, 0, 0, 0, 0, []),
  (1120, .iload_n 3, 1, 3, 0, 0, 0, 0, []),
  (1121, .iconst 2, 1, 0, 0, 0, 0, 2, []),
  (1122, .iadd, 1, 0, 0, 0, 0, 0, []),
  (1123, .iaload, 1, 0, 0, 0, 0, 0, []),
  (1124, .aload_n 0, 1, 0, 0, 0, 0, 0, []),
  (1125, .iload_n 3, 1, 3, 0, 0, 0, 0, []),
  (1126, .iconst 3, 1, 0, 0, 0, 0, 3, []),
  (1127, .iadd, 1, 0, 0, 0, 0, 0, []),
  (1128, .iaload, 1, 0, 0, 0, 0, 0, []),
  (1129, .invokevirtual 133, 3, 114, 4, 6, 1, 8, [283]),
  (1132, .aload_n 2, 1, 2, 0, 0, 0, 0, []),
  (1133, .aload_n 0, 1, 0, 0, 0, 0, 0, []),
  (1134, .iload_n 3, 1, 3, 0, 0, 0, 0, []),
  (1135, .iconst 1, 1, 0, 0, 0, 0, 1, []),
  (1136, .iadd, 1, 0, 0, 0, 0, 0, []),
  (1137, .iaload, 1, 0, 0, 0, 0, 0, []),
  (1138, .aload_n 0, 1, 0, 0, 0, 0, 0, []),
  (1139, .iload_n 3, 1, 3, 0, 0, 0, 0, []),
  (1140, .iconst 2, 1, 0, 0, 0, 0, 2, []),
  (1141, .iadd, 1, 0, 0, 0, 0, 0, []),
  (1142, .iaload, 1, 0, 0, 0, 0, 0, []),
  (1143, .aload_n 0, 1, 0, 0, 0, 0, 0, []),
  (1144, .iload_n 3, 1, 3, 0, 0, 0, 0, []),
  (1145, .iconst 3, 1, 0, 0, 0, 0, 3, []),
  (1146, .iadd, 1, 0, 0, 0, 0, 0, []),
  (1147, .iaload, 1, 0, 0, 0, 0, 0, []),
  (1148, .invokevirtual 137, 3, 252, 4, 6, 1, 9, [284]),
  (1151, .lcmp, 4, 1262, 0, 0, 0, 0, []),
  (1155, .iconst 0, 1, 0, 0, 0, 0, 0, []),
  (1156, .ireturn, 1, 1, 0, 0, 0, 0, []),
  (1157, .aload_n 1, 1, 1, 0, 0, 0, 0, []),
  (1158, .aload_n 0, 1, 0, 0, 0, 0, 0, []),
  (1159, .iload_n 3, 1, 3, 0, 0, 0, 0, []),
  (1160, .iconst 1, 1, 0, 0, 0, 0, 1, []),
  (1161, .iadd, 1, 0, 0, 0, 0, 0, []),
  (1162, .iaload, 1, 0, 0, 0, 0, 0, []),
  (1163, .aload_n 0, 1, 0, 0, 0, 0, 0, []),
  (1164, .iload_n 3, 1, 3, 0, 0, 0, 0, []),
  (1165, .iconst 2, 1, 0, 0, 0, 0, 2, []),
  (1166, .iadd, 1, 0, 0, 0, 0, 0, []),
  (1167, .iaload, 1, 0, 0, 0, 0, 0, []),
  (1168, .invokevirtual 138, 3, 115, 3, 4, 1, 8, [285]),
  (1171, .aload_n 2, 1, 2, 0, 0, 0, 0, []),
  (1172, .aload_n 0, 1, 0, 0, 0, 0, 0, []),
  (1173, .iload_n 3, 1, 3, 0, 0, 0, 0, []),
  (1174, .iconst 1, 1, 0, 0, 0, 0, 1, []),
  (1175, .iadd, 1, 0, 0, 0, 0, 0, []),
  (1176, .iaload, 1, 0, 0, 0, 0, 0, []),
  (1177, .aload_n 0, 1, 0, 0, 0, 0, 0, []),
  (1178, .iload_n 3, 1, 3, 0, 0, 0, 0, []),
  (1179, .iconst 2, 1, 0, 0, 0, 0, 2, []),
  (1180, .iadd, 1, 0, 0, 0, 0, 0, []),
  (1181, .iaload, 1, 0, 0, 0, 0, 0, []),
  (1182, .invokevirtual 141, 3, 257, 3, 5, 1, 9, [286]),
  (1185, .lcmp, 4, 1262, 0, 0, 0, 0, []),
  (1189, .iconst 0, 1, 0, 0, 0, 0, 0, []),
  (1190, .ireturn, 1, 1, 0, 0, 0, 0, []),
  (1191, .aload_n 1, 1, 1, 0, 0, 0, 0, []),
  (1192, .aload_n 0, 1, 0, 0, 0, 0, 0, []),
  (1193, .iload_n 3, 1, 3, 0, 0, 0, 0, []),
  (1194, .iconst 1, 1, 0, 0, 0, 0, 1, []),
  (1195, .iadd, 1, 0, 0, 0, 0, 0, []),
  (1196, .iaload, 1, 0, 0, 0, 0, 0, []),
  (1197, .aload_n 0, 1, 0, 0, 0, 0, 0, []),
  (1198, .iload_n 3, 1, 3, 0, 0, 0, 0, []),
  (1199, .iconst 2, 1, 0, 0, 0, 0, 2, []),
  (1200, .iadd, 1, 0, 0, 0, 0, 0, []),
  (1201, .iaload, 1, 0, 0, 0, 0, 0, []),
  (1202, .invokevirtual 142, 3, 116, 3, 3, 1, 8, [287]),
  (1205, .aload_n 2, 1, 2, 0, 0, 0, 0, []),
  (1206, .aload_n 0, 1, 0, 0, 0, 0, 0, []),
  (1207, .iload_n 3, 1, 3, 0, 0, 0, 0, []),
  (1208, .iconst 1, 1, 0, 0, 0, 0, 1, []),
  (1209, .iadd, 1, 0, 0, 0, 0, 0, []),
  (1210, .iaload, 1, 0, 0, 0, 0, 0, []),
  (1211, .aload_n 0, 1, 0, 0, 0, 0, 0, []),
  (1212, .iload_n 3, 1, 3, 0, 0, 0, 0, []),
  (1213, .iconst 2, 1, 0, 0, 0, 0, 2, []),
  (1214, .iadd, 1, 0, 0, 0, 0, 0, []),
  (1215, .iaload, 1, 0, 0, 0, 0, 0, []),
  (1216, .invokevirtual 145, 3, 248, 3, 3, 1, 9, [288]),
  (1219, .lcmp, 4, 1262, 0, 0, 0, 0, []),
  (1223, .iconst 0, 1, 0, 0, 0, 0, 0, []),
  (1224, .ireturn, 1, 1, 0, 0, 0, 0, []),
  (1225, .aload_n 1, 1, 1, 0, 0, 0, 0, []),
  (1226, .invokevirtual 146, 3, 117, 1, 1, 1, 8, [289]),
  (1229, .aload_n 2, 1, 2, 0, 0, 0, 0, []),
  (1230, .invokevirtual 150, 3, 242, 1, 4, 1, 9, [290]),
  (1233, .lcmp, 4, 1262, 0, 0, 0, 0, []),
  (1237, .iconst 0, 1, 0, 0, 0, 0, 0, []),
  (1238, .ireturn, 1, 1, 0, 0, 0, 0, []),
  (1239, .aload_n 1, 1, 1, 0, 0, 0, 0, []),
  (1240, .aload_n 0, 1, 0, 0, 0, 0, 0, []),
  (1241, .iload_n 3, 1, 3, 0, 0, 0, 0, []),
  (1242, .iconst 1, 1, 0, 0, 0, 0, 1, []),
  (1243, .iadd, 1, 0, 0, 0, 0, 0, []),
  (1244, .iaload, 1, 0, 0, 0, 0, 0, []),
  (1245, .invokevirtual 151, 3, 118, 2, 2, 1, 8, [291]),
  (1248, .aload_n 2, 1, 2, 0, 0, 0, 0, []),
  (1249, .aload_n 0, 1, 0, 0, 0, 0, 0, []),
  (1250, .iload_n 3, 1, 3, 0, 0, 0, 0, []),
  (1251, .iconst 1, 1, 0, 0, 0, 0, 1, []),
  (1252, .iadd, 1, 0, 0, 0, 0, 0, []),
  (1253, .iaload, 1, 0, 0, 0, 0, 0, []),
  (1254, .invokevirtual 154, 3, 262, 2, 2, 1, 9, [292]),
  (1257, .if_icmp .eq 5, 3, 1262, 0, 0, 0, 0, []),
  (1260, .iconst 0, 1, 0, 0, 0, 0, 0, []),
  (1261, .ireturn, 1, 1, 0, 0, 0, 0, []),
  (1262, .iinc 3 6, 3, 3, 0, 0, 0, 6, []),
  (1265, .goto (-1247), 3, 18, 0, 0, 0, 0, []),
  (1268, .iconst 1, 1, 0, 0, 0, 0, 1, []),
  (1269, .ireturn, 1, 1, 0, 0, 0, 0, [])]
def cds : List (List xE) := [cJ_bitCount, cCosts_weigh, cCosts_partedBeginnings, cCosts_slotsWith, cCosts_fewestSlots, cCosts_slotsBy, cCosts_bestLevels, cCosts_digitsBy, cFewest_seek, cFewest_hasNone, cFewest_part, cFewest_hand, cFewest_leastOf, cFewest_append, cKinds_find, cKinds_kindOf, cKinds_rowOf, cKinds_leadToLike, cKinds_kindOfChild, cKinds_unlikeIn, cNodes_build, cNodes_append, cNodes_fill, cNodes_store, cNodes_has, cNodes_startOfLevel, cNodes_behindLevel, cNodes_slotsOf, cNodes_storedBy, cNodes_storedAt, cNodes_storedIn, cNodes_childAt, cNodes_placeAt, cNodes_leafHop, cNodes_slotOf, cNodes_goTo, cNodes_placeOf, cNodes_deepest, cNodes_allSteps, cNodes_isSame, cNodes_othersThan, cNodes_orderOf, cPieces_cut, cPieces_shortestAt, cPieces_tellOf, cSpans_survey, cSpans_innermost, cSpans_closeAhead, cSpans_emit, cSpans_spanWith, cSpans_idle, cSpans_addressesWith, cSpans_differing, cTable_takeFirstStrides, cTable_clear, cTable_copyFrom, cTable_copyStrides, cTable_hasStridesOf, cTable_takeStrides, cTable_turnStrides, cTable_placeFor, cTable_find, cTable_hasHop, cTable_hops, cTable_keyOfRule, cTable_ruleOf, cTable_put, cTable_makeRoom, cTable_drop, cTable_release, cTable_takeHop, cTable_hasRulesOf, cTable_takeRules, cTape_hasRoom, cTape_append, cTape_readInto, cTape_readLine, cTape_readRule, cTape_readStrides, cTape_readNumber, cTape_expect, cTape_isStrides, cTape_atEnd, cTape_nextSign, cTape_signAt, cTape_isDigit, cTape_fail, cRS_feed, cRS_end, cRS_tell, cRS_add, cRS_withdraw, cRS_range, cRS_strides, cRS_gather, cRS_undo, cRS_keep, cRS_back, cRS_look, cRS_path, cRS_would, cRS_within, cRS_differs, cRS_rule, cRS_served, cRS_hop, cRS_reach, cRS_node, cRS_stored, cRS_slot, cRS_alike, cRS_level, cRS_span, cRS_cover, cRS_own, cRS_best, cRS_fewest, cRS_steps, cRS_count, cRS_unsigned, cRS_widthOf, cRS_isBeginning, cRS_isWay, cRS_keyOf, cRS_stateOf, cRS_isKept, cRS_lookAtRules, cRS_beginAct, cRS_dropOldestAct, cRS_forgetActs, cRS_touchedByLastAct, cRS_touchedAgainst, cRS_seeSpans, cRS_seeNodes, cRS_seeKinds, cRS_seeFewest, cRS_seeCosts, cRS_bitsOfMean, cMo_isIn, cMo_startsAnew, cMo_unsigned, cMo_sizeOf, cMo_isBeginning, cMo_isWay, cMo_valueOf, cMo_find, cMo_rulesOf, cMo_hopOf, cMo_hopFor, cMo_frees, cMo_isAhead, cMo_copies, cMo_puts, cMo_drops, cMo_addsPlace, cMo_firstOf, cMo_behindOf, cMo_ruleOf, cMo_laysPlaces, cMo_codeBy, cMo_laysTable, cMo_behindRow, cMo_rowAt, cMo_isOne, cMo_codeAt, cMo_lengthAt, cMo_addsNode, cMo_laysNodes, cMo_hasNode, cMo_nodeAt, cMo_slotsAt, cMo_slotSize, cMo_reads, cMo_isUnlike, cMo_othersNow, cMo_goneNow, cMo_keepsAct, cMo_isDone, cMo_isLaidAnew, cMo_undo, cMo_isShelf, cMo_keep, cMo_back, cMo_hasIt, cMo_add, cMo_withdraw, cMo_would, cMo_covers, cMo_cover, cMo_range, cMo_addsStride, cMo_strideSum, cMo_takesStrides, cMo_readsDigits, cMo_areStrides, cMo_strides, cMo_feed, cMo_end, cMo_byteAt, cMo_next, cMo_isDigitNext, cMo_fails, cMo_readsNumber, cMo_readsSign, cMo_isStridesWord, cMo_readsStrides, cMo_readsRule, cMo_readsText, cMo_tell, cMo_hopAt, cMo_through, cMo_hasChild, cMo_storedPlace, cMo_hopWithout, cMo_look, cMo_path, cMo_within, cMo_differs, cMo_servedBy, cMo_parentOf, cMo_isRule, cMo_rule, cMo_served, cMo_isHop, cMo_hop, cMo_reach, cMo_isNode, cMo_parentNode, cMo_node, cMo_hopBy, cMo_stored, cMo_slotFirst, cMo_leads, cMo_slot, cMo_laysKinds, cMo_areLike, cMo_laysClasses, cMo_alike, cMo_storedAt, cMo_unlikeAt, cMo_level, cMo_span, cMo_steps, cMo_ownSet, cMo_setOf, cMo_leastOf, cMo_hands, cMo_laysFewest, cMo_fewest, cMo_areFewest, cMo_gather, cMo_ownAt, cMo_own, cMo_nodesOf, cMo_slotsIf, cMo_laysSlots, cMo_stridesOf, cMo_best, cMo_hops, cMo_idle, cMo_allLevels, cMo_keptSet, cMo_count, cLaw_law]
def xC (k : Nat) : List xE := cds.getD k []
abbrev Ru : xP := RuC xC
theorem sx_ok (cd : List xE) (n : Nat) (st : List Nat) {d k pc : Nat} {Q : xQ} {L S : List xV} {M : xM} (hcd : xC k = cd) (h : sxC xC st d k Q cd n (sf cd pc) L S M) : Ru d k pc L S M Q := sxC_ok cd n st hcd h
end
section
/-! THE SIMULATION: what the abstract run says, the machine does. -/
theorem o32 (x : Int) : Int32.ofInt (z32 x) = Int32.ofInt x := by
  rw [Int32.ofInt_eq_iff_bmod_eq_toInt, Int32.toInt_ofInt]
  unfold z32
  exact Int.bmod_bmod
theorem o64 (x : Int) : Int64.ofInt (z64 x) = Int64.ofInt x := by
  rw [Int64.ofInt_eq_iff_bmod_eq_toInt, Int64.toInt_ofInt]
  unfold z64
  exact Int.bmod_bmod
def i32 (x : Int) : Prop := -2147483648 ≤ x ∧ x < 2147483648
def i64 (x : Int) : Prop := -9223372036854775808 ≤ x ∧ x < 9223372036854775808
theorem t32 {x : Int} (h : i32 x) : (Int32.ofInt x).toInt = x := Int32.toInt_ofInt_of_le h.1 h.2
theorem t64 {x : Int} (h : i64 x) : (Int64.ofInt x).toInt = x := Int64.toInt_ofInt_of_le h.1 h.2
theorem i32_t (x : Int32) : i32 x.toInt := ⟨x.le_toInt, x.toInt_lt⟩
theorem i64_t (x : Int64) : i64 x.toInt := ⟨x.le_toInt, x.toInt_lt⟩
theorem i32_z (x : Int) : i32 (z32 x) := by
  have h := i32_t (Int32.ofInt x)
  rw [Int32.toInt_ofInt] at h
  exact h
theorem i64_z (x : Int) : i64 (z64 x) := by
  have h := i64_t (Int64.ofInt x)
  rw [Int64.toInt_ofInt] at h
  exact h
theorem i32_64 {x : Int} (h : i32 x) : i64 x := ⟨by have := h.1; omega, by have := h.2; omega⟩
theorem l32 {x y : Int} (hx : i32 x) (hy : i32 y) : Int32.ofInt x < Int32.ofInt y ↔ x < y := by rw [Int32.lt_iff_toInt_lt, t32 hx, t32 hy]
theorem le32 {x y : Int} (hx : i32 x) (hy : i32 y) : Int32.ofInt x ≤ Int32.ofInt y ↔ x ≤ y := by rw [Int32.le_iff_toInt_le, t32 hx, t32 hy]
theorem e32 {x y : Int} (hx : i32 x) (hy : i32 y) : Int32.ofInt x = Int32.ofInt y ↔ x = y := by rw [← Int32.toInt_inj, t32 hx, t32 hy]
theorem l64 {x y : Int} (hx : i64 x) (hy : i64 y) : Int64.ofInt x < Int64.ofInt y ↔ x < y := by rw [Int64.lt_iff_toInt_lt, t64 hx, t64 hy]
theorem le64 {x y : Int} (hx : i64 x) (hy : i64 y) : Int64.ofInt x ≤ Int64.ofInt y ↔ x ≤ y := by rw [Int64.le_iff_toInt_le, t64 hx, t64 hy]
theorem e64 {x y : Int} (hx : i64 x) (hy : i64 y) : Int64.ofInt x = Int64.ofInt y ↔ x = y := by rw [← Int64.toInt_inj, t64 hx, t64 hy]
theorem n32 {j : Int} (h0 : 0 ≤ j) (h : i32 j) : (Int32.ofInt j).toNatClampNeg = j.toNat := by
  unfold Int32.toNatClampNeg
  rw [t32 h]
theorem in32 {j : Int} {n : Nat} (h0 : 0 ≤ j) (h : j < (n : Int)) (hr : i32 j) : vp_in (Int32.ofInt j) n := by
  rw [vp_in_iff, t32 hr]
  exact ⟨h0, h⟩
-- inversions
theorem sI_i {S : List xV} {k : Int → List xV → Prop} (h : sI S k) : ∃ n x T, S = (0, n, x) :: T ∧ k x T := by
  unfold sI at h; split at h
  · exact ⟨_, _, _, rfl, h⟩
  · exact h.elim
theorem sL_i {S : List xV} {k : Int → List xV → Prop} (h : sL S k) : ∃ n x T, S = (1, n, x) :: T ∧ k x T := by
  unfold sL at h; split at h
  · exact ⟨_, _, _, rfl, h⟩
  · exact h.elim
theorem sD_i {S : List xV} {k : Int → List xV → Prop} (h : sD S k) : ∃ n x T, S = (8, n, x) :: T ∧ k x T := by
  unfold sD at h; split at h
  · exact ⟨_, _, _, rfl, h⟩
  · exact h.elim
theorem sO_i {c : Nat} {S : List xV} {k : Int → List xV → Prop} (h : sO c S k) : ∃ x T, S = (2, c, x) :: T ∧ k x T := by
  unfold sO at h; split at h
  · split at h
    · rename_i hb
      cases Nat.eq_of_beq_eq_true hb
      exact ⟨_, _, rfl, h⟩
    · exact h.elim
  · exact h.elim
theorem sA_i {t : Nat} {S : List xV} {k : Nat → Int → List xV → Prop} (h : sA t S k) : ∃ n a T, S = (t, n, a) :: T ∧ k n a T := by
  unfold sA at h; split at h
  · split at h
    · rename_i hb
      cases Nat.eq_of_beq_eq_true hb
      exact ⟨_, _, _, rfl, h⟩
    · exact h.elim
  · exact h.elim
theorem sB_i {b : Bool} {P : Prop} (h : sB b P) : b = true ∧ P := by
  unfold sB at h; split at h
  · exact ⟨rfl, h⟩
  · exact h.elim
theorem sV_i {S : List xV} {k : xV → List xV → Prop} (h : sV S k) : ∃ v T, S = v :: T ∧ k v T := by
  unfold sV at h; split at h
  · exact ⟨_, _, rfl, h⟩
  · exact h.elim
theorem sZ_i {n : Nat} {A B : Prop} (h : sZ n A B) : (n = 0 ∧ A) ∨ (n ≠ 0 ∧ B) := by
  unfold sZ at h; split at h
  · exact Or.inl ⟨rfl, h⟩
  · rename_i hn; exact Or.inr ⟨hn, h⟩
theorem s3_i {n : Nat} {A B : Prop} (h : s3 n A B) : (n = 0 ∧ A) ∨ (n = 1 ∧ B) := by
  unfold s3 at h; split at h
  · exact Or.inl ⟨rfl, h⟩
  · exact Or.inr ⟨rfl, h⟩
  · exact h.elim
theorem sJ_i {S : List xV} {k : Nat → Int → List xV → Prop} {m : List xV → Prop} (h : sJ S k m) : (∃ n a T, S = (3, n, a) :: T ∧ k n a T) ∨ (∃ n a T, S = (11, n, a) :: T ∧ m T) := by
  unfold sJ at h; split at h
  · exact Or.inl ⟨_, _, _, rfl, h⟩
  · exact Or.inr ⟨_, _, _, rfl, h⟩
  · exact h.elim
theorem sK_i {S : List xV} {k m : Nat → Int → List xV → Prop} (h : sK S k m) : (∃ n a T, S = (6, n, a) :: T ∧ k n a T) ∨ (∃ n a T, S = (7, n, a) :: T ∧ m n a T) := by
  unfold sK at h; split at h
  · exact Or.inl ⟨_, _, _, rfl, h⟩
  · exact Or.inr ⟨_, _, _, rfl, h⟩
  · exact h.elim
theorem sY_i {S : List xV} {k m : Nat → Int → List xV → Prop} (h : sY S k m) : (∃ n a T, S = (5, n, a) :: T ∧ k n a T) ∨ (∃ n a T, S = (12, n, a) :: T ∧ m n a T) := by
  unfold sY at h; split at h
  · exact Or.inl ⟨_, _, _, rfl, h⟩
  · exact Or.inr ⟨_, _, _, rfl, h⟩
  · exact h.elim
theorem sS_i {t : Nat} {S : List xV} {k : List xV → Prop} (h : sS t S k) : ∃ n a T, S = (t, n, a) :: T ∧ k T := by
  unfold sS at h; split at h
  · split at h
    · rename_i hb
      cases Nat.eq_of_beq_eq_true hb
      exact ⟨_, _, _, rfl, h⟩
    · exact h.elim
  · exact h.elim
theorem sC_i {n m : Nat} {S : List xV} {k : List xV → List xV → Prop} (h : sC n m S k) : n ≤ S.length ∧ wid (S.drop n) ≤ 8 ∧ (lay1 (S.take n).reverse).length ≤ m ∧ k (S.take n).reverse (S.drop n) := by
  unfold sC at h; split at h
  · rename_i h1 h2 h3
    exact ⟨Nat.le_of_ble_eq_true h1, Nat.le_of_ble_eq_true h2, Nat.le_of_ble_eq_true h3, h⟩
  · exact h.elim
theorem sH_i {c : Nat} {as : List xV} {P : Prop} (h : sH c as P) : (∃ x T, as = (2, c, x) :: T) ∧ P := by
  unfold sH at h; split at h
  · split at h
    · rename_i hb
      cases Nat.eq_of_beq_eq_true hb
      exact ⟨⟨_, _, rfl⟩, h⟩
    · exact h.elim
  · exact h.elim
theorem sW_i {T : List xV} {P : Prop} (h : sW T P) : wid T ≤ 8 ∧ P := by
  unfold sW at h; split at h
  · rename_i h1; exact ⟨Nat.le_of_ble_eq_true h1, h⟩
  · exact h.elim
theorem r1_i {S : List xV} {k : Int → Prop} (h : r1 S k) : ∃ n x, S = [(0, n, x)] ∧ k x := by
  unfold r1 at h; split at h
  · exact ⟨_, _, rfl, h⟩
  · exact h.elim
theorem r2_i {S : List xV} {k : Int → Prop} (h : r2 S k) : ∃ n x, S = [(1, n, x)] ∧ k x := by
  unfold r2 at h; split at h
  · exact ⟨_, _, rfl, h⟩
  · exact h.elim
theorem r0_i {S : List xV} {k : Prop} (h : r0 S k) : S = [] ∧ k := by
  unfold r0 at h; split at h
  · exact ⟨rfl, h⟩
  · exact h.elim
theorem rb_i {x : Int} {P : Prop} (h : rb x P) : (x = 0 ∨ x = 1) ∧ P := by
  unfold rb at h; split at h
  · exact ⟨Or.inl rfl, h⟩
  · exact ⟨Or.inr rfl, h⟩
  · exact h
-- values
abbrev xG : Type := (Nat → Nat) × Nat × Nat
def mkV (G : xG) (v : xV) : Value := match v.1 with
  | 0 => .int (Int32.ofInt v.2.2)
  | 1 => .long (Int64.ofInt v.2.2)
  | 8 => .double (UInt64.ofNat v.2.2.toNat)
  | 10 => .ref G.2.1
  | 11 => .ref G.2.2
  | _ => .ref (G.1 v.2.2.toNat)
abbrev xSH : Type := List (Nat × Nat)
def okV (SH : xSH) (v : xV) : Prop := match v.1 with
  | 0 => i32 v.2.2
  | 1 => i64 v.2.2
  | 8 => 0 ≤ v.2.2 ∧ v.2.2 < 18446744073709551616
  | 9 => True
  | 10 => True
  | 11 => True
  | t => 0 ≤ v.2.2 ∧ SH[v.2.2.toNat]? = some (t, v.2.1)
theorem isR_mk {G : xG} {v : xV} (h : isR v = true) : ∃ y, mkV G v = .ref y := by
  obtain ⟨t, n, x⟩ := v
  unfold isR at h
  unfold mkV
  dsimp only at h ⊢
  split at h <;> first | (cases h; done) | skip
  split <;> first | exact ⟨_, rfl⟩ | (exfalso; simp_all)
theorem two_cat (G : xG) (v : xV) : (mkV G v).category = if two v then 2 else 1 := by
  obtain ⟨t, n, x⟩ := v
  unfold mkV two
  dsimp only
  split <;> first | rfl | (split <;> first | rfl | (exfalso; simp_all; done))
theorem wid_cat (G : xG) : ∀ (T : List xV), ((T.map (mkV G)).map fun v => v.category).sum = wid T
  | [] => rfl
  | v :: T => by
    rw [List.map_cons, List.map_cons, List.sum_cons, wid_cat G T, two_cat, wid]
    cases two v
    · simp; omega
    · simp; omega
-- locals
def LR (G : xG) (ls : Array Slot) (L : List xV) : Prop := ls.size = L.length ∧ lv_wf ls ∧ ∀ (i : Nat) (v : xV), L[i]? = some v → v.1 ≠ 9 → ls[i]? = some (.val (mkV G v))
def lvl (G : xG) (L : List xV) : List (Nat × Value) := (List.range L.length).filterMap fun i => match L[i]? with
  | some v => if v.1 = 9 then none else some (i, mkV G v)
  | none => none
theorem lvl_mem {G : xG} {L : List xV} {i : Nat} {v : xV} (h : L[i]? = some v) (h9 : v.1 ≠ 9) : (i, mkV G v) ∈ lvl G L := by
  refine List.mem_filterMap.mpr ⟨i, List.mem_range.mpr (List.getElem?_eq_some_iff.mp h).1, ?_⟩
  simp only [h, if_neg h9]
theorem LR_has {G : xG} {ls : Array Slot} {L : List xV} (h : LR G ls L) : lv_has ls L.length (lvl G L) := by
  refine ⟨h.1, h.2.1, fun q hq => ?_⟩
  obtain ⟨i, -, hi⟩ := List.mem_filterMap.mp hq
  revert hi
  cases hL : L[i]? with
  | none => exact fun hi => by cases hi
  | some v =>
    intro hi
    by_cases h9 : v.1 = 9
    · simp [h9] at hi
    · simp only [if_neg h9] at hi
      cases hi
      exact h.2.2 i v hL h9
theorem getD_at {L : List xV} {i : Nat} {v : xV} (h : L.getD i xU = v) (h9 : v.1 ≠ 9) : L[i]? = some v := by
  rw [List.getD_eq_getElem?_getD] at h
  cases hL : L[i]? with
  | none => rw [hL] at h; rw [← h] at h9; exact absurd rfl h9
  | some w => rw [hL] at h; exact congrArg some h
theorem cutv_keep {v : xV} (h : (cutv v).1 ≠ 9) : two v = false ∧ cutv v = v := by
  unfold cutv at h ⊢
  cases hv : two v with
  | true => rw [hv] at h; exact absurd rfl h
  | false => exact ⟨rfl, rfl⟩
theorem cut1_at {L : List xV} {i j : Nat} {w : xV} (h : (cut1 L i)[j]? = some w) (h9 : w.1 ≠ 9) : L[j]? = some w ∧ (j + 1 = i → two w = false) := by
  cases i with
  | zero => exact ⟨h, fun q => by omega⟩
  | succ n =>
    have h : (L.set n (cutv (L.getD n xU)))[j]? = some w := h
    by_cases hj : n = j
    · subst hj
      have hlt : n < L.length := by
        have := (List.getElem?_eq_some_iff.mp h).1
        rwa [List.length_set] at this
      rw [List.getElem?_set_self hlt] at h
      cases h
      obtain ⟨h1, h2⟩ := cutv_keep h9
      rw [h2] at h9 ⊢
      exact ⟨getD_at rfl h9, fun _ => h1⟩
    · rw [List.getElem?_set_ne hj] at h
      exact ⟨h, fun q => by omega⟩
theorem cut1_len (L : List xV) (i : Nat) : (cut1 L i).length = L.length := by
  unfold cut1; split
  · rfl
  · exact List.length_set
theorem LR_st1 {G : xG} {ls' : Array Slot} {L : List xV} {i : Nat} {v : xV} (h : lv_has ls' L.length ((i, mkV G v) :: (lvl G L).filter (fun q => !(q.1 == i) && !(q.1 + 1 == i && q.2.category == 2)))) : LR G ls' (st1 L i v) := by
  refine ⟨by rw [h.1]; unfold st1; rw [List.length_set, cut1_len], h.2.1, fun j w hj h9 => ?_⟩
  unfold st1 at hj
  by_cases hij : i = j
  · subst hij
    have hlt : i < (cut1 L i).length := by
      have := (List.getElem?_eq_some_iff.mp hj).1
      rwa [List.length_set] at this
    rw [List.getElem?_set_self hlt] at hj
    cases hj
    exact h.2.2 (i, mkV G v) List.mem_cons_self
  · rw [List.getElem?_set_ne hij] at hj
    obtain ⟨h1, h2⟩ := cut1_at hj h9
    refine h.2.2 (j, mkV G w) (List.mem_cons_of_mem _ (List.mem_filter.mpr ⟨lvl_mem h1 h9, ?_⟩))
    have e1 : (j == i) = false := by simp; omega
    by_cases hji : j + 1 = i
    · have hc : (mkV G w).category = 1 := by rw [two_cat, h2 hji]; rfl
      simp [e1, hc]
    · have e2 : (j + 1 == i) = false := by simp; omega
      simp [e1, e2]
theorem LR_st2 {G : xG} {ls' : Array Slot} {L : List xV} {i : Nat} {v : xV} (h : lv_has ls' L.length ((i, mkV G v) :: (lvl G L).filter (fun q => !(q.1 == i) && (!(q.1 == i + 1) && !(q.1 + 1 == i && q.2.category == 2))))) : LR G ls' (st2 L i v) := by
  refine ⟨by rw [h.1]; unfold st2; rw [List.length_set, List.length_set, cut1_len], h.2.1, fun j w hj h9 => ?_⟩
  unfold st2 at hj
  by_cases hij : i = j
  · subst hij
    have hlt : i < ((cut1 L i).set (i + 1) xU).length := by
      have := (List.getElem?_eq_some_iff.mp hj).1
      rwa [List.length_set] at this
    rw [List.getElem?_set_self hlt] at hj
    cases hj
    exact h.2.2 (i, mkV G v) List.mem_cons_self
  · rw [List.getElem?_set_ne hij] at hj
    by_cases hij2 : i + 1 = j
    · subst hij2
      have hlt : i + 1 < (cut1 L i).length := by
        have := (List.getElem?_eq_some_iff.mp hj).1
        rwa [List.length_set] at this
      rw [List.getElem?_set_self hlt] at hj
      cases hj
      exact absurd rfl h9
    · rw [List.getElem?_set_ne hij2] at hj
      obtain ⟨h1, h2⟩ := cut1_at hj h9
      refine h.2.2 (j, mkV G w) (List.mem_cons_of_mem _ (List.mem_filter.mpr ⟨lvl_mem h1 h9, ?_⟩))
      have e1 : (j == i) = false := by simp; omega
      have e3 : (j == i + 1) = false := by simp; omega
      by_cases hji : j + 1 = i
      · have hc : (mkV G w).category = 1 := by rw [two_cat, h2 hji]; rfl
        simp [e1, e3, hc]
      · have e2 : (j + 1 == i) = false := by simp; omega
        simp [e1, e2, e3]
theorem okV_cut1 {SH : xSH} {L : List xV} {i : Nat} (h : ∀ w ∈ L, okV SH w) : ∀ w ∈ cut1 L i, okV SH w := by
  intro w q
  cases i with
  | zero => exact h w q
  | succ n =>
    rcases List.mem_or_eq_of_mem_set (show w ∈ L.set n (cutv (L.getD n xU)) from q) with q | q
    · exact h w q
    · subst q
      unfold cutv
      split
      · trivial
      · rw [List.getD_eq_getElem?_getD]
        cases hn : L[n]? with
        | none => trivial
        | some z => exact h z (List.mem_of_getElem? hn)
theorem okV_st1 {SH : xSH} {L : List xV} {i : Nat} {v : xV} (h : ∀ w ∈ L, okV SH w) (hv : okV SH v) : ∀ w ∈ st1 L i v, okV SH w := by
  intro w hw
  unfold st1 at hw
  rcases List.mem_or_eq_of_mem_set hw with q | q
  · exact okV_cut1 h w q
  · subst q; exact hv
theorem okV_st2 {SH : xSH} {L : List xV} {i : Nat} {v : xV} (h : ∀ w ∈ L, okV SH w) (hv : okV SH v) : ∀ w ∈ st2 L i v, okV SH w := by
  intro w hw
  unfold st2 at hw
  rcases List.mem_or_eq_of_mem_set hw with q | q
  · rcases List.mem_or_eq_of_mem_set q with q | q
    · exact okV_cut1 h w q
    · subst q; trivial
  · subst q; exact hv
end
section
/-! THE WORLD of a memory: the cells by their shapes. -/
def xfv (G : xG) (M : xM) (a k : Nat) (f : Nat × Nat × Int) : Value := match f.1 with
  | 0 => .int (Int32.ofInt (M a k))
  | 1 => .long (Int64.ofInt (M a k))
  | _ => .ref (G.1 ((a : Int) + f.2.2).toNat)
def xfl (G : xG) (M : xM) (a ci : Nat) : List Value := (List.range (xfs.getD ci []).length).map fun k => xfv G M a k (xfld ci k)
/-- while an object is being made: a reference held as 1 more than its cell, 0 for none -/
def cfv (G : xG) (M : xM) (a k : Nat) (f : Nat × Nat × Int) : Value := match f.1 with
  | 0 => .int (Int32.ofInt (M a k))
  | 1 => .long (Int64.ofInt (M a k))
  | _ => if M a k = 0 then .null else .ref (G.1 (M a k - 1).toNat)
def cfl (G : xG) (M : xM) (a ci : Nat) : List Value := (List.range (xfs.getD ci []).length).map fun k => cfv G M a k (xfld ci k)
def xcell (G : xG) (cA : Nat → ClassId) (M : xM) (a : Nat) (sh : Nat × Nat) : va_E := match sh.1 with
  | 2 => .inr (sh.2, xfl G M a sh.2)
  | 4 => .inl (cA 4, sh.2, .inr (.inl fun j => Int64.ofInt (M a j)))
  | 6 => .inl (cA 6, sh.2, .inr (.inr (.inr (.inr fun j => some (G.1 (M a j).toNat)))))
  | 7 => .inl (cA 7, sh.2, .inr (.inr (.inr (.inr fun j => some (G.1 (M a j).toNat)))))
  | 13 => .inr (sh.2, cfl G M a sh.2)
  | 14 => .inl (cA 6, sh.2, .inr (.inr (.inr (.inr fun j => if M a j = 0 then none else some (G.1 (M a j - 1).toNat)))))
  | t => .inl (cA t, sh.2, .inl fun j => Int32.ofInt (M a j))
def xW (SH : xSH) (G : xG) (cA : Nat → ClassId) (M : xM) : va_W := SH.mapIdx fun a sh => (G.1 a, xcell G cA M a sh)
theorem xW_at {SH : xSH} {G : xG} {cA : Nat → ClassId} {M : xM} {a : Nat} {sh : Nat × Nat} (h : SH[a]? = some sh) : (xW SH G cA M)[a]? = some (G.1 a, xcell G cA M a sh) := by
  unfold xW
  rw [List.getElem?_mapIdx, h]
  rfl
def xtys (cA : Nat → ClassId) : List (ClassId × FieldType) := [(cA 3, .int), (cA 4, .long), (cA 5, .boolean), (cA 6, .object "RouteStrides$Table"), (cA 7, .array .long), (cA 12, .byte)]
/-- a cell's places hold what they may -/
def okC (SH : xSH) (M : xM) (a : Nat) (sh : Nat × Nat) : Prop := match sh.1 with
  | 2 => ∀ k : Nat, k < (xfs.getD sh.2 []).length → (match (xfld sh.2 k).1 with
    | 0 => i32 (M a k)
    | 1 => i64 (M a k)
    | t => 0 ≤ (a : Int) + (xfld sh.2 k).2.2 ∧ SH[((a : Int) + (xfld sh.2 k).2.2).toNat]? = some (t, (xfld sh.2 k).2.1))
  | 4 => ∀ j : Nat, j < sh.2 → i64 (M a j)
  | 6 => ∀ j : Nat, j < sh.2 → okV SH (xO xTab (M a j))
  | 7 => ∀ j : Nat, j < sh.2 → okV SH (xAL xRow (M a j))
  | 13 => True
  | 14 => True
  | _ => ∀ j : Nat, j < sh.2 → i32 (M a j)
def okM (SH : xSH) (M : xM) : Prop := ∀ (a : Nat) (sh : Nat × Nat), SH[a]? = some sh → okC SH M a sh
theorem up_ne {M : xM} {a i v b j : Int} (h : ¬ b = a) : up M a i v b j = M b j := if_neg h
theorem up_same {M : xM} {a i v : Int} : up M a i v a i = v := by
  unfold up
  rw [if_pos rfl, if_pos rfl]
theorem up_off {M : xM} {a i v j : Int} (h : ¬ j = i) : up M a i v a j = M a j := by
  unfold up
  rw [if_pos rfl, if_neg h]
theorem nat_cast_ne {a b : Nat} (h : ¬ b = a) : ¬ (b : Int) = (a : Int) := by omega
theorem xcell_ne {G : xG} {cA : Nat → ClassId} {M : xM} {a b : Nat} {i v : Int} {sh : Nat × Nat} (h : ¬ b = a) : xcell G cA (up M a i v) b sh = xcell G cA M b sh := by
  have e : ∀ j : Int, up M a i v b j = M b j := fun j => up_ne (nat_cast_ne h)
  unfold xcell xfl xfv cfl cfv
  simp only [e]
theorem xW_up {SH : xSH} {G : xG} {cA : Nat → ClassId} {M : xM} {a : Nat} {i v : Int} {sh : Nat × Nat} {E : va_E} (h : SH[a]? = some sh) (he : xcell G cA (up M a i v) a sh = E) : (xW SH G cA M).set a (G.1 a, E) = xW SH G cA (up M a i v) := by
  apply List.ext_getElem?
  intro b
  by_cases hb : a = b
  · subst hb
    rw [List.getElem?_set_self (by unfold xW; rw [List.length_mapIdx]; exact (List.getElem?_eq_some_iff.mp h).1), xW_at h, he]
  · rw [List.getElem?_set_ne hb]
    cases hs : SH[b]? with
    | none =>
      unfold xW
      rw [List.getElem?_mapIdx, List.getElem?_mapIdx, hs]
      rfl
    | some s2 => rw [xW_at hs, xW_at hs, xcell_ne (fun q => hb q.symm)]
theorem okM_up {SH : xSH} {M : xM} {a : Nat} {i v : Int} {sh : Nat × Nat} (h : okM SH M) (ha : SH[a]? = some sh) (hn : okC SH (up M a i v) a sh) : okM SH (up M a i v) := by
  intro b s2 hb
  by_cases e : b = a
  · subst e
    rw [ha] at hb
    cases hb
    exact hn
  · have h2 := h b s2 hb
    have e2 : ∀ j : Int, up M a i v b j = M b j := fun j => up_ne (nat_cast_ne e)
    unfold okC at h2 ⊢
    simp only [e2]
    exact h2
/-- by the shape: what a cell is -/
theorem xcell_3 {G : xG} {cA : Nat → ClassId} {M : xM} {a n : Nat} : xcell G cA M a (3, n) = .inl (cA 3, n, .inl fun j => Int32.ofInt (M a j)) := rfl
theorem upd_fun {M : xM} {a k : Nat} {x : Int} {j : Int} (hj : j = (k : Int)) : (fun q : Nat => Int32.ofInt (up M a j x a q)) = upd (fun q : Nat => Int32.ofInt (M a q)) k (Int32.ofInt x) := by
  subst hj
  funext q
  by_cases e : q = k
  · subst e
    rw [up_same]
    unfold upd
    rw [if_pos rfl]
  · rw [up_off (nat_cast_ne e)]
    unfold upd
    rw [if_neg e]
theorem updL_fun {M : xM} {a k : Nat} {x : Int} {j : Int} (hj : j = (k : Int)) : (fun q : Nat => Int64.ofInt (up M a j x a q)) = vp_updL (fun q : Nat => Int64.ofInt (M a q)) k (Int64.ofInt x) := by
  subst hj
  funext q
  by_cases e : q = k
  · subst e
    rw [up_same]
    unfold vp_updL
    rw [if_pos rfl]
  · rw [up_off (nat_cast_ne e)]
    unfold vp_updL
    rw [if_neg e]
theorem updR_fun {G : xG} {M : xM} {a k : Nat} {x : Int} {j : Int} (hj : j = (k : Int)) : (fun q : Nat => some (G.1 (up M a j x a q).toNat)) = va_up (fun q : Nat => some (G.1 (M a q).toNat)) k (some (G.1 x.toNat)) := by
  subst hj
  funext q
  by_cases e : q = k
  · subst e
    rw [up_same]
    unfold va_up
    rw [if_pos rfl]
  · rw [up_off (nat_cast_ne e)]
    unfold va_up
    rw [if_neg e]
end
section
/-- a field's kind and its type -/
def ktB (f : Nat × Nat × Int) (ty : FieldType) : Bool := match f.1 with
  | 0 => (Nat.beq f.2.1 0 && decide (ty = .int)) || (Nat.beq f.2.1 1 && decide (ty = .boolean))
  | 1 => decide (ty = .long)
  | t => [2, 3, 4, 5, 6, 7, 12].contains t
def xclP (ci : Nat) (q : vw_C) : Prop := (xfs.getD ci []).length = q.2.2 ∧ (∀ w ∈ u_ws q.1 q.2.1 q.2.2, w ∈ xTT) ∧ xcn ci = q.1 ∧ ∃ ty0 : Nat → FieldType, (∀ k, k < q.2.2 → parseFieldDescriptor (q.2.1 k).2.2.1 = some (ty0 k)) ∧ (∀ k, k < q.2.2 → ktB (xfld ci k) (ty0 k) = true) ∧ ∀ a, a < q.2.2 → ∀ b, b < q.2.2 → a ≠ b → (q.2.1 a).2.1 ≠ (q.2.1 b).2.1
theorem tt_of {ws : List Cond} (ps : List Nat) (h : ws = ps.filterMap (fun i => lw_tbl[i]?)) (hg : ws.all goodWord = true) : ∀ w ∈ ws, w ∈ xTT := by
  intro w hw
  have h1 := List.all_eq_true.mp hg w hw
  rw [h] at hw
  obtain ⟨i, -, hi⟩ := List.mem_filterMap.mp hw
  exact tt_mem hi h1
theorem xcl_0 : xclP 0 (RX0, TX0, 2) := ⟨by decide +kernel, tt_of [413, 415] (by decide +kernel) (by decide +kernel), by decide +kernel, tyX0, tyX0_ok, by decide +kernel, nmX0⟩
theorem xcl_1 : xclP 1 (RX1, TX1, 7) := ⟨by decide +kernel, tt_of [388, 390, 392, 394, 396, 398, 400] (by decide +kernel) (by decide +kernel), by decide +kernel, tyX1, tyX1_ok, by decide +kernel, nmX1⟩
theorem xcl_2 : xclP 2 (RX2, TX2, 3) := ⟨by decide +kernel, tt_of [360, 362, 364] (by decide +kernel) (by decide +kernel), by decide +kernel, tyX2, tyX2_ok, by decide +kernel, nmX2⟩
theorem xcl_3 : xclP 3 (RX3, TX3, 18) := ⟨by decide +kernel, tt_of [313, 315, 317, 319, 321, 323, 325, 327, 329, 331, 333, 335, 337, 339, 341, 343, 345, 347] (by decide +kernel) (by decide +kernel), by decide +kernel, tyX3, tyX3_ok, by decide +kernel, nmX3⟩
theorem xcl_4 : xclP 4 (RX4, TX4, 3) := ⟨by decide +kernel, tt_of [430, 432, 434] (by decide +kernel) (by decide +kernel), by decide +kernel, tyX4, tyX4_ok, by decide +kernel, nmX4⟩
theorem xcl_5 : xclP 5 (RX5, TX5, 10) := ⟨by decide +kernel, tt_of [258, 260, 262, 264, 266, 268, 270, 272, 274, 276] (by decide +kernel) (by decide +kernel), by decide +kernel, tyX5, tyX5_ok, by decide +kernel, nmX5⟩
theorem xcl_6 : xclP 6 (RX6, TX6, 8) := ⟨by decide +kernel, tt_of [210, 212, 214, 216, 218, 220, 222, 224] (by decide +kernel) (by decide +kernel), by decide +kernel, tyX6, tyX6_ok, by decide +kernel, nmX6⟩
theorem xcl_7 : xclP 7 (RX7, TX7, 4) := ⟨by decide +kernel, tt_of [165, 167, 169, 171] (by decide +kernel) (by decide +kernel), by decide +kernel, tyX7, tyX7_ok, by decide +kernel, nmX7⟩
theorem xcl_8 : xclP 8 (RX8, TX8, 17) := ⟨by decide +kernel, tt_of [454, 456, 458, 460, 462, 464, 466, 468, 470, 472, 474, 476, 478, 480, 482, 484, 486] (by decide +kernel) (by decide +kernel), by decide +kernel, tyX8, tyX8_ok, by decide +kernel, nmX8⟩
theorem xcl_9 : xclP 9 (RX9, TX9, 52) := ⟨by decide +kernel, tt_of [1247, 1249, 1251, 1253, 1255, 1257, 1259, 1261, 1263, 1265, 1267, 1269, 1271, 1273, 1275, 1277, 1279, 1281, 1283, 1285, 1287, 1289, 1291, 1293, 1295, 1297, 1299, 1301, 1303, 1305, 1307, 1309, 1311, 1313, 1315, 1317, 1319, 1321, 1323, 1325, 1327, 1329, 1331, 1333, 1335, 1337, 1339, 1341, 1343, 1345, 1347, 1349] (by decide +kernel) (by decide +kernel), by decide +kernel, tyX9, tyX9_ok, by decide +kernel, nmX9⟩
theorem xcl_ok : ∀ (ci : Nat) (q : vw_C), xcl[ci]? = some q → xclP ci q
  | 0, _, h => by cases h; exact xcl_0
  | 1, _, h => by cases h; exact xcl_1
  | 2, _, h => by cases h; exact xcl_2
  | 3, _, h => by cases h; exact xcl_3
  | 4, _, h => by cases h; exact xcl_4
  | 5, _, h => by cases h; exact xcl_5
  | 6, _, h => by cases h; exact xcl_6
  | 7, _, h => by cases h; exact xcl_7
  | 8, _, h => by cases h; exact xcl_8
  | 9, _, h => by cases h; exact xcl_9
  | n + 10, _, h => by simp [xcl] at h
theorem fls_at {i own idx ci k pos : Nat} (h : fls[i]? = some (own, idx, ci, k, pos)) : ∃ C T N, xcl[ci]? = some (C, T, N) ∧ k < N ∧ (T k).1 = C ∧ Cond.fieldLink (xcn own) idx (T k).1 (T k).2.1 (T k).2.2.1 ∈ xTT := by
  have h1 := List.all_eq_true.mp fls_ok _ (List.mem_of_getElem? h)
  unfold xfokB at h1
  dsimp only at h1
  cases hc : xcl[ci]? with
  | none => rw [hc] at h1; cases h1
  | some q =>
    obtain ⟨C, T, N⟩ := q
    rw [hc] at h1
    simp only [Bool.and_eq_true, decide_eq_true_eq] at h1
    exact ⟨C, T, N, rfl, Nat.le_of_ble_eq_true h1.1, h1.2.1, tt_mem h1.2.2 rfl⟩
theorem cls_at {i own idx kind pos : Nat} {v : Int} (h : cls_[i]? = some (own, idx, kind, v, pos)) : xcok (own, idx, kind, v, pos) = true := List.all_eq_true.mp cls_ok _ (List.mem_of_getElem? h)
theorem mls_at {i own idx k nest pos : Nat} (h : mls[i]? = some (own, idx, k, nest, pos)) : xmok (own, idx, k, nest, pos) = true := List.all_eq_true.mp mls_ok _ (List.mem_of_getElem? h)
end
section
/-- an int's range -/
def r32 (c : Int) : Bool := decide (-2147483648 ≤ c) && decide (c < 2147483648)
/-- the answer's kind -/
def bol (r : Option FieldType) : Nat := match r with
  | some .int => 0
  | some .boolean => 1
  | some .long => 2
  | none => 3
  | _ => 4
def mpos : List (Nat × Nat × Nat) := [(0, 49, 1083), (3, 61, 845), (3, 102, 859), (5, 80, 776), (5, 86, 930), (5, 90, 933), (7, 95, 548)]
def selV (a : Nat) (A B C : Bool) : Bool := match a with
  | 9001 => A
  | 9002 => B
  | _ => C
def selS (a : Nat) (A B B2 B3 C : Bool) : Bool := match a with
  | 9003 => A
  | 9004 => B
  | 9005 => B2
  | 9006 => B3
  | _ => C
def chkLen (own idx : Nat) : Bool := (Nat.beq own 7 && Nat.beq idx 58) || (Nat.beq own 9 && Nat.beq idx 377)
def chkAt (own idx : Nat) : Bool := (Nat.beq own 7 && Nat.beq idx 100) || (Nat.beq own 9 && Nat.beq idx 382)
def chkMa (own idx : Nat) (y : MethodName) : Bool := mpos.any fun q => Nat.beq q.1 own && (Nat.beq q.2.1 idx && decide (lw_tbl[q.2.2]? = some (Cond.methodLink (xcn own) idx y)))
def ret4 (a4 : Nat) (ret : Option FieldType) : Bool := match a4 with
  | 0 => decide (ret = none)
  | _ => decide (ret ≠ none)
def chkVc (own idx k a2 a3 a4 : Nat) (c : Int) (ts : List Nat) : Bool := match mls[ts.headD 0]?, mts[k]? with
  | some (o, i, q, nest, _), some (ow, st, _, maxL, ret, _, _, _, _, np) => (Nat.beq o own && (Nat.beq i idx && (Nat.beq q k && Nat.beq nest 0))) && (Nat.beq st 0 && (Nat.beq a2 (np + 1) && (decide (c = (ow : Int)) && (Nat.beq a3 maxL && ret4 a4 ret))))
  | _, _ => false
def chkSc (own idx k a2 a3 a4 : Nat) (ts : List Nat) : Bool := match mls[ts.headD 0]?, mts[k]? with
  | some (o, i, q, _, _), some (_, st, _, maxL, ret, _, _, _, _, np) => (Nat.beq o own && (Nat.beq i idx && Nat.beq q k)) && (Nat.beq st 1 && (Nat.beq a2 np && (Nat.beq a3 maxL && (ret4 a4 ret && !Nat.beq k kLaw_law))))
  | _, _ => false
/-- an entry of a list agrees with the instruction that it names -/
def chkI (own bo ml : Nat) (e : xE) : Bool := match e with
  | (pc, ins, len, a1, a2, a3, a4, c, ts) => match ins with
    | .iconst n => Nat.beq len 1 && (decide (n = c) && r32 c)
    | .bipush n => Nat.beq len 2 && (decide ((Int8.ofInt n).toInt32 = Int32.ofInt c) && r32 c)
    | .sipush n => Nat.beq len 3 && (decide ((Int16.ofInt n).toInt32 = Int32.ofInt c) && r32 c)
    | .ldc idx => Nat.beq len 2 && (match a1 with
      | 0 => match cls_[ts.headD 0]? with
        | some (o, i, k, v, _) => Nat.beq o own && (Nat.beq i idx && (Nat.beq k 0 && decide (v = c)))
        | none => false
      | _ => Nat.beq own 7 && Nat.beq idx 56)
    | .ldc_w idx => Nat.beq len 3 && (match a1 with
      | 0 => match cls_[ts.headD 0]? with
        | some (o, i, k, v, _) => Nat.beq o own && (Nat.beq i idx && (Nat.beq k 0 && decide (v = c)))
        | none => false
      | _ => Nat.beq own 9 && Nat.beq idx 375)
    | .lconst n => Nat.beq len 1 && decide (((n : Nat) : Int) = c)
    | .ldc2_w idx => Nat.beq len 3 && (match cls_[ts.headD 0]? with
        | some (o, i, k, v, _) => Nat.beq o own && (Nat.beq i idx && ((match a1 with
          | 0 => Nat.beq k 1
          | _ => Nat.beq k 2) && decide (v = c)))
        | none => false)
    | .iload_n n => Nat.beq len 1 && decide ((n : Nat) = a1)
    | .lload_n n => Nat.beq len 1 && decide ((n : Nat) = a1)
    | .aload_n n => Nat.beq len 1 && decide ((n : Nat) = a1)
    | .istore_n n => Nat.beq len 1 && (decide ((n : Nat) = a1) && Nat.blt a1 ml)
    | .lstore_n n => Nat.beq len 1 && (decide ((n : Nat) = a1) && Nat.blt (a1 + 1) ml)
    | .astore_n n => Nat.beq len 1 && (decide ((n : Nat) = a1) && Nat.blt a1 ml)
    | .iload n => Nat.beq len 2 && Nat.beq n a1
    | .lload n => Nat.beq len 2 && Nat.beq n a1
    | .aload n => Nat.beq len 2 && Nat.beq n a1
    | .istore n => Nat.beq len 2 && (decide (n = a1) && Nat.blt a1 ml)
    | .lstore n => Nat.beq len 2 && (decide (n = a1) && Nat.blt (a1 + 1) ml)
    | .astore n => Nat.beq len 2 && (decide (n = a1) && Nat.blt a1 ml)
    | .iinc n v => Nat.beq len 3 && (Nat.beq n a1 && decide (v = c))
    | .goto off => Nat.beq len 3 && decide ((pc : Int) + off = (a1 : Int))
    | .if_icmp _ off => Nat.beq len 3 && decide ((pc : Int) + off = (a1 : Int))
    | .ifCond _ off => Nat.beq len 3 && decide ((pc : Int) + off = (a1 : Int))
    | .tableswitch d lo hi offs => decide ((pc : Int) + d = (a1 : Int)) && (decide (lo = 0) && (decide (hi + 1 = (ts.length : Int)) && decide (offs.toList.map (fun o => (pc : Int) + o) = ts.map (fun (t : Nat) => (t : Int)))))
    | .getfield idx => Nat.beq len 3 && ((match fls[ts.headD 0]? with
        | some (o, i, ci, k, _) => Nat.beq o own && (Nat.beq i idx && (Nat.beq ci a1 && Nat.beq k a2))
        | none => false) && decide (xfld a1 a2 = (a3, a4, c)))
    | .putfield idx => Nat.beq len 3 && ((match fls[ts.headD 0]? with
        | some (o, i, ci, k, _) => Nat.beq o own && (Nat.beq i idx && (Nat.beq ci a1 && Nat.beq k a2))
        | none => false) && (decide (xfld a1 a2 = (a3, a4, c)) && (match xcl[a1]? with
        | some (_, T, _) => !(T a2).2.2.2
        | none => false)))
    | .invokevirtual idx => Nat.beq len 3 && selV a1 (chkLen own idx) (chkAt own idx) (chkVc own idx a1 a2 a3 a4 c ts)
    | .invokestatic idx => Nat.beq len 3 && selS a1 (Nat.beq own 9 && Nat.beq idx 481) (chkMa own idx Lib.Math.min.name) (chkMa own idx Lib.MathLoose.max_long.x) (chkMa own idx Lib.MathLoose.min_long.x) (chkSc own idx a1 a2 a3 a4 ts)
    | .ireturn => Nat.beq len 1 && (Nat.beq a1 bo && Nat.ble bo 1)
    | .lreturn => Nat.beq len 1 && Nat.beq bo 2
    | .return_ => Nat.beq len 1 && Nat.beq bo 3
    | .lcmp => Nat.beq len 4
    | _ => Nat.beq len 1
def chkD (cc : ByteArray) (e : xE) : Bool := match e with
  | (pc, ins, len, a1, a2, _) => match ins with
    | .lcmp => decide (decode cc pc = .ok (.lcmp, 1)) && (match decode cc (pc + 1) with
      | .ok (.ifCond o off, 3) => decide (o = oc a2) && decide (((pc + 1 : Nat) : Int) + off = (a1 : Int))
      | _ => false)
    | _ => decide (decode cc pc = .ok (ins, len))
/-- all entries of a method's list agree -/
def xchk (k : Nat) : Bool := match mts[k]? with
  | some (own, _, _, ml, ret, pc, _) => (xC k).all (chkI own (bol ret) ml) && (xC k).all (chkD (xbyt pc))
  | none => false
end
section
def xcc (k : Nat) (t : xT) : ByteArray := if k = kLaw_law then code else xbyt t.2.2.2.2.2.1
def xStr (G : xG) (A : Nat → Prop) (s : State) (H : Heap) : Prop := ∃ qv : Nat, vk_S 1 [7] [[115, 116, 114, 105, 100, 101, 115]] (fun _ => G.2.1) (fun _ => qv) A s H ∧ vk_R "RouteStrides$Tape" 56 "strides" G.2.1 s ∧ vk_R "RouteStridesModel" 375 "strides" G.2.1 s ∧ va_Z "java/lang/String" "COMPACT_STRINGS" "Z" (.int 1) A s H ∧ va_Zq "jdk/internal/util/Preconditions" "SIOOBE_FORMATTER" "Ljava/util/function/BiFunction;" A s H
def xNs (s : State) : Prop := ∀ (own idx : Nat) (y : MethodName), Cond.methodLinkNest (xcn own) idx y "RouteStrides" ∈ lw_tbl → va_Nw (.methodLinkNest (xcn own) idx y "RouteStrides") s
def xStat (G : xG) (cA : Nat → ClassId) (D : va_G) (A : Nat → Prop) (Ls : Nat) (xs : Nat → Int32) (s : State) : Prop := va_K D xcl (xtys cA) s ∧ xStr G A s s.heap ∧ va_X G.2.2 Ls xs s s.heap ∧ G.2.2 < s.heap.size ∧ ¬ A G.2.2 ∧ xNs s
def xScr (Ls : Nat) (xs : Nat → Int32) (M : xM) : Prop := M (-1) 0 = (Ls : Int) ∧ Ls ≤ 3072 ∧ ∀ j : Nat, j < Ls → M (-1) ((j : Int) + 1) = (xs j).toInt
def xDyn (SH : xSH) (G : xG) (cA : Nat → ClassId) (D : va_G) (A : Nat → Prop) (Ls : Nat) (xs : Nat → Int32) (H0 : Heap) (M : xM) (H : Heap) (locs : List Loc) : Prop := va_P D xcl (xW SH G cA M) H ∧ va_D A (xW SH G cA M) ∧ va_S A H0 H locs ∧ okM SH M ∧ xScr Ls xs M
def xCx (G : xG) (cA : Nat → ClassId) (D : va_G) (A : Nat → Prop) (Ls : Nat) (xs : Nat → Int32) (k : Nat) (t : xT) (d : Nat) (p : Program) (R : Room) (s : State) (m : MethodId) (args : Array Value) (meth : Method) (c : Code) (cells slots : Nat) : Prop :=
  mts[k]? = some t ∧ p.tables.exec = Jvm.exec ∧ c.code = xcc k t ∧ c.maxLocals = t.2.2.2.1 ∧ s.vm.findClass (xcn t.1) = some m.cls ∧ (∀ w ∈ xTT, w.before args s = true) ∧ xStat G cA D A Ls xs s ∧ d + 8 ≤ R.frames ∧ 60 * d + 200 ≤ R.locals ∧ cells ≤ R.cells ∧ slots ≤ R.slots
def xst (G : xG) (v : xV) : List Value := match v.1 with
  | 9 => []
  | _ => [mkV G v]
def xRet (r : Nat) (v : xV) (ins : Instr) : Prop := match v.1 with
  | 0 => ins = .ireturn ∧ (r = 0 ∨ (r = 1 ∧ (v.2.2 = 0 ∨ v.2.2 = 1)))
  | 1 => ins = .lreturn ∧ r = 2
  | 9 => ins = .return_ ∧ r = 3
  | _ => False
def xHd (SH : xSH) (G : xG) (cA : Nat → ClassId) (D : va_G) (A : Nat → Prop) (Ls : Nat) (xs : Nat → Int32) (l : Launch) (k : Nat) (t : xT) (p : Program) (e : Env) (R : Room) (s : State) (m : MethodId) (args : Array Value) (below : List Frame) (meth : Method) (c : Code) (cells slots : Nat) (Q : xQ) (Qf : State → Prop) : Prop :=
  ∀ (v : xV) (N : xM) (H : Heap) (locs : List Loc) (pc : Nat) (ls : Array Slot) (ins : Instr), Q v N → okV SH v → xDyn SH G cA D A Ls xs s.heap N H locs → decode (xcc k t) pc = .ok (ins, 1) → xRet (bol t.2.2.2.2.1) v ins → W p l e R s m args below meth c H locs cells slots Qf (F0 m pc ls (xst G v))
def xSim (SH : xSH) (G : xG) (cA : Nat → ClassId) (D : va_G) (A : Nat → Prop) (Ls : Nat) (xs : Nat → Int32) (l : Launch) : xP := fun d k pc L S M Q =>
  ∀ (t : xT) (p : Program) (e : Env) (R : Room) (s : State) (m : MethodId) (args : Array Value) (below : List Frame) (meth : Method) (c : Code) (cells slots : Nat) (Qf : State → Prop), xCx G cA D A Ls xs k t d p R s m args meth c cells slots → xHd SH G cA D A Ls xs l k t p e R s m args below meth c cells slots Q Qf →
  ∀ (H : Heap) (locs : List Loc) (ls : Array Slot), xDyn SH G cA D A Ls xs s.heap M H locs → LR G ls L → L.length = t.2.2.2.1 → (∀ v ∈ L, okV SH v) → (∀ v ∈ S, okV SH v) → W p l e R s m args below meth c H locs cells slots Qf (F0 m pc ls (S.map (mkV G)))
theorem xSim_mono {SH : xSH} {G : xG} {cA : Nat → ClassId} {D : va_G} {A : Nat → Prop} {Ls : Nat} {xs : Nat → Int32} {l : Launch} : xMono (xSim SH G cA D A Ls xs l) := by
  intro d k pc L S M Q Q2 hq h t p e R s m args below meth c cells slots Qf hC hH
  exact h t p e R s m args below meth c cells slots Qf hC (fun v N H locs pc ls ins hv => hH v N H locs pc ls ins (hq v N hv))
theorem okc {SH : xSH} {v : xV} {S : List xV} (hv : okV SH v) (hS : ∀ w ∈ S, okV SH w) : ∀ w ∈ v :: S, okV SH w := by
  intro w hw
  rcases List.mem_cons.mp hw with q | q
  · rw [q]; exact hv
  · exact hS w q
theorem okt {SH : xSH} {v : xV} {S : List xV} (hS : ∀ w ∈ v :: S, okV SH w) : okV SH v ∧ ∀ w ∈ S, okV SH w := ⟨hS v List.mem_cons_self, fun w h => hS w (List.mem_cons_of_mem _ h)⟩
theorem r32_i {c : Int} (h : r32 c = true) : i32 c := by
  unfold r32 at h
  simp only [Bool.and_eq_true, decide_eq_true_eq] at h
  exact h
theorem nat_of {a : Int} (h : 0 ≤ a) : ∃ b : Nat, a = (b : Int) := ⟨a.toNat, (Int.toNat_of_nonneg h).symm⟩
theorem okV_mem {SH : xSH} {L : List xV} {i : Nat} {v : xV} (h : ∀ w ∈ L, okV SH w) (hi : L[i]? = some v) : okV SH v := h v (List.mem_of_getElem? hi)
theorem xScr_up {Ls : Nat} {xs : Nat → Int32} {M : xM} {a : Nat} {i v : Int} (h : xScr Ls xs M) : xScr Ls xs (up M a i v) := by
  have e : ∀ j : Int, up M a i v (-1) j = M (-1) j := fun j => up_ne (by omega)
  unfold xScr
  simp only [e]
  exact h
theorem sw_in {nx : Nat → Prop} {x : Int} {d : Nat} : ∀ {i : Nat} {ts : List Nat} (j : Nat) (tg : Nat), ts[j]? = some tg → x = ((i + j : Nat) : Int) → sw nx x d i ts → nx tg
  | _, [], _, _, h, _, _ => by simp at h
  | i, t :: ts, 0, tg, h, hx, hs => by
    simp at h
    subst h
    exact hs.1 (by rw [hx]; simp)
  | i, t :: ts, j + 1, tg, h, hx, hs => by
    simp at h
    exact sw_in (i := i + 1) (ts := ts) j tg h (by rw [hx]; congr 1; omega) (hs.2 (by rw [hx]; omega))
theorem sw_out {nx : Nat → Prop} {x : Int} {d : Nat} : ∀ {i : Nat} {ts : List Nat}, (x < (i : Int) ∨ ((i + ts.length : Nat) : Int) ≤ x) → sw nx x d i ts → nx d
  | _, [], _, hs => hs
  | i, t :: ts, h, hs => by
    refine sw_out (i := i + 1) (ts := ts) ?_ (hs.2 ?_)
    · rcases h with h | h
      · left; omega
      · right
        have : (t :: ts).length = ts.length + 1 := rfl
        rw [this] at h
        omega
    · intro e
      have : (t :: ts).length = ts.length + 1 := rfl
      rw [this] at h
      omega
theorem xfl_len (G : xG) (M : xM) (a ci : Nat) : (xfl G M a ci).length = (xfs.getD ci []).length := by
  unfold xfl
  rw [List.length_map, List.length_range]
theorem xfl_at {G : xG} {M : xM} {a ci k : Nat} (h : k < (xfs.getD ci []).length) : (xfl G M a ci)[k]? = some (xfv G M a k (xfld ci k)) := by
  unfold xfl
  rw [List.getElem?_map, List.getElem?_range h]
  rfl
theorem xfl_up {G : xG} {M : xM} {a ci k : Nat} {x : Int} {v : Value} (h : k < (xfs.getD ci []).length) (hv : xfv G (up M a k x) a k (xfld ci k) = v) : xfl G (up M a k x) a ci = (xfl G M a ci).set k v := by
  apply List.ext_getElem?
  intro j
  by_cases hj : k = j
  · subst hj
    rw [xfl_at h, List.getElem?_set_self (by rw [xfl_len]; exact h), hv]
  · rw [List.getElem?_set_ne hj]
    by_cases hl : j < (xfs.getD ci []).length
    · rw [xfl_at hl, xfl_at hl]
      have e : up M a k x a j = M a j := up_off (fun q => hj (by omega))
      unfold xfv
      simp only [e]
    · rw [List.getElem?_eq_none (by rw [xfl_len]; omega), List.getElem?_eq_none (by rw [xfl_len]; omega)]
theorem fget_mk {G : xG} {M : xM} {b k kind n : Nat} {off : Int} (h : kind = 0 ∨ kind = 1 ∨ [2, 3, 4, 5, 6, 7, 12].contains kind = true) : xfv G M b k (kind, n, off) = mkV G (fget M b k kind n off) := by
  rcases h with rfl | rfl | h
  · rfl
  · rfl
  · simp at h
    rcases h with rfl | rfl | rfl | rfl | rfl | rfl | rfl <;> rfl
theorem fget_ok {SH : xSH} {M : xM} {b ci k kind n : Nat} {off : Int} (hM : okM SH M) (hb : SH[b]? = some (2, ci)) (hk : k < (xfs.getD ci []).length) (hf : xfld ci k = (kind, n, off)) (h : kind = 0 ∨ kind = 1 ∨ [2, 3, 4, 5, 6, 7, 12].contains kind = true) : okV SH (fget M b k kind n off) := by
  have h1 : okC SH M b (2, ci) := hM b (2, ci) hb
  have h2 := h1 k hk
  rw [hf] at h2
  rcases h with rfl | rfl | h
  · exact h2
  · exact h2
  · simp at h
    rcases h with rfl | rfl | rfl | rfl | rfl | rfl | rfl <;> exact h2
theorem kt_kind {f : Nat × Nat × Int} {ty : FieldType} (h : ktB f ty = true) : f.1 = 0 ∨ f.1 = 1 ∨ [2, 3, 4, 5, 6, 7, 12].contains f.1 = true := by
  unfold ktB at h
  split at h
  · left; assumption
  · right; left; assumption
  · right; right; exact h
theorem okC_put {SH : xSH} {M : xM} {b ci k : Nat} {x : Int} (hC : okC SH M b (2, ci)) (hx : match (xfld ci k).1 with
    | 0 => i32 x
    | 1 => i64 x
    | _ => False) : okC SH (up M b k x) b (2, ci) := by
  intro j hj
  have h1 := hC j hj
  by_cases e : j = k
  · subst e
    rw [up_same]
    revert hx h1
    cases hf : xfld ci j with
    | mk kd r =>
      match kd with
      | 0 => exact fun _ hx => hx
      | 1 => exact fun _ hx => hx
      | t + 2 => exact fun _ hx => hx.elim
  · have e2 : up M b k x b j = M b j := up_off (fun q => e (by omega))
    rw [e2]
    exact h1
theorem okC_arr {SH : xSH} {M : xM} {b n t : Nat} {j x : Int} (ht : t = 3 ∨ t = 5 ∨ t = 12) (hC : okC SH M b (t, n)) (hx : i32 x) : okC SH (up M b j x) b (t, n) := by
  rcases ht with rfl | rfl | rfl
  all_goals
    intro q hq
    have h1 := hC q hq
    by_cases e : (q : Int) = j
    · rw [← e, up_same]; exact hx
    · rw [up_off e]; exact h1
theorem okC_arrL {SH : xSH} {M : xM} {b n : Nat} {j x : Int} (hC : okC SH M b (4, n)) (hx : i64 x) : okC SH (up M b j x) b (4, n) := by
  intro q hq
  have h1 := hC q hq
  by_cases e : (q : Int) = j
  · rw [← e, up_same]; exact hx
  · rw [up_off e]; exact h1
theorem okC_arrT {SH : xSH} {M : xM} {b n : Nat} {j x : Int} (hC : okC SH M b (6, n)) (hx : okV SH (xO xTab x)) : okC SH (up M b j x) b (6, n) := by
  intro q hq
  have h1 := hC q hq
  by_cases e : (q : Int) = j
  · rw [← e, up_same]; exact hx
  · rw [up_off e]; exact h1
theorem j_in {j : Int} {n : Nat} (h : 0 ≤ j ∧ j < (n : Int)) : ∃ q : Nat, j = (q : Int) ∧ q < n := by
  obtain ⟨q, rfl⟩ := nat_of h.1
  exact ⟨q, rfl, by omega⟩
theorem n32' {q : Nat} (h : i32 (q : Int)) : (Int32.ofInt (q : Int)).toNatClampNeg = q := by
  rw [n32 (by omega) h]
  rfl
theorem mn_32 {x y : Int} (hx : i32 x) (hy : i32 y) : Int32.ofInt (mn x y) = if Int32.ofInt y < Int32.ofInt x then Int32.ofInt y else Int32.ofInt x := by
  unfold mn
  by_cases h : y < x
  · rw [if_pos h, if_pos ((l32 hy hx).mpr h)]
  · rw [if_neg h, if_neg (fun q => h ((l32 hy hx).mp q))]
theorem mn_64 {x y : Int} (hx : i64 x) (hy : i64 y) : Int64.ofInt (mn x y) = if Int64.ofInt y < Int64.ofInt x then Int64.ofInt y else Int64.ofInt x := by
  unfold mn
  by_cases h : y < x
  · rw [if_pos h, if_pos ((l64 hy hx).mpr h)]
  · rw [if_neg h, if_neg (fun q => h ((l64 hy hx).mp q))]
theorem mx_64 {x y : Int} (hx : i64 x) (hy : i64 y) : Int64.ofInt (mx x y) = if Int64.ofInt y < Int64.ofInt x then Int64.ofInt x else Int64.ofInt y := by
  unfold mx
  by_cases h : y < x
  · rw [if_pos h, if_pos ((l64 hy hx).mpr h)]
  · rw [if_neg h, if_neg (fun q => h ((l64 hy hx).mp q))]
theorem mn_i {P : Int → Prop} {x y : Int} (hx : P x) (hy : P y) : P (mn x y) := by
  unfold mn; split
  · exact hy
  · exact hx
theorem mx_i {P : Int → Prop} {x y : Int} (hx : P x) (hy : P y) : P (mx x y) := by
  unfold mx; split
  · exact hx
  · exact hy
end
section
theorem mem_at {α : Type} {l : List α} {i : Nat} {a : α} (h : l[i]? = some a) : a ∈ l := List.mem_of_getElem? h
theorem xbyt_at {pos : Nat} {y : MethodName} {n : Nat} {r : Option FieldType} (h : (match lw_tbl[pos]? with
    | some (.code y2 _ n2 r2) => decide (y2 = y) && (decide (n2 = n) && decide (r2 = r))
    | _ => false) = true) : lw_tbl[pos]? = some (Cond.code y (xbyt pos) n r) := by
  unfold xbyt
  cases hl : lw_tbl[pos]? with
  | none => rw [hl] at h; cases h
  | some w =>
    rw [hl] at h
    cases w <;> first | (cases h; done) | skip
    simp only [Bool.and_eq_true, decide_eq_true_eq] at h
    obtain ⟨e1, e2, e3⟩ := h
    subst e1; subst e2; subst e3
    rfl
theorem good_cons {w : Cond} (h : w ∈ xTT) : GoodIn xTT (w :: xTT) := fun v hv => by
  rcases List.mem_cons.mp hv with e | e
  · rw [e]; exact tt_good _ h
  · exact tt_good v e
def yJ_coder : MethodName := ⟨"java/lang/String", "coder", "()B"⟩
def cJ_coder : ByteArray := xbyt 602
theorem mJ_coder : Cond.code yJ_coder cJ_coder 1 (some .byte) ∈ xTT := tt_mem (i := 602) (xbyt_at (by decide +kernel)) rfl
theorem dJ_coder_0 : decode cJ_coder 0 = .ok (.getstatic 38, 3) := by decide +kernel
theorem dJ_coder_3 : decode cJ_coder 3 = .ok (.ifCond .eq 10, 3) := by decide +kernel
theorem dJ_coder_6 : decode cJ_coder 6 = .ok (.aload_n 0, 1) := by decide +kernel
theorem dJ_coder_7 : decode cJ_coder 7 = .ok (.getfield 15, 3) := by decide +kernel
theorem dJ_coder_10 : decode cJ_coder 10 = .ok (.goto 4, 3) := by decide +kernel
theorem dJ_coder_13 : decode cJ_coder 13 = .ok (.iconst 1, 1) := by decide +kernel
theorem dJ_coder_14 : decode cJ_coder 14 = .ok (.ireturn, 1) := by decide +kernel
def wJ_coder : List Cond := Cond.code yJ_coder cJ_coder 1 (some .byte) :: xTT
theorem gJ_coder : GoodIn xTT wJ_coder := good_cons mJ_coder
theorem sJ_coder : Cond.instanceMethod yJ_coder ∈ xTT := tt_mem (i := 600) (by decide +kernel) rfl
theorem lJ_coder : Cond.selects "java/lang/String" yJ_coder yJ_coder ∈ xTT := tt_mem (i := 601) (by decide +kernel) rfl
theorem iJ_coder : Cond.initialized "java/lang/String" ∈ xTT := tt_mem (i := 140) (by decide +kernel) rfl
def yJ_isLatin1 : MethodName := ⟨"java/lang/String", "isLatin1", "()Z"⟩
def cJ_isLatin1 : ByteArray := xbyt 612
theorem mJ_isLatin1 : Cond.code yJ_isLatin1 cJ_isLatin1 1 (some .boolean) ∈ xTT := tt_mem (i := 612) (xbyt_at (by decide +kernel)) rfl
theorem dJ_isLatin1_0 : decode cJ_isLatin1 0 = .ok (.getstatic 38, 3) := by decide +kernel
theorem dJ_isLatin1_3 : decode cJ_isLatin1 3 = .ok (.ifCond .eq 14, 3) := by decide +kernel
theorem dJ_isLatin1_6 : decode cJ_isLatin1 6 = .ok (.aload_n 0, 1) := by decide +kernel
theorem dJ_isLatin1_7 : decode cJ_isLatin1 7 = .ok (.getfield 15, 3) := by decide +kernel
theorem dJ_isLatin1_10 : decode cJ_isLatin1 10 = .ok (.ifCond .ne 7, 3) := by decide +kernel
theorem dJ_isLatin1_13 : decode cJ_isLatin1 13 = .ok (.iconst 1, 1) := by decide +kernel
theorem dJ_isLatin1_14 : decode cJ_isLatin1 14 = .ok (.goto 4, 3) := by decide +kernel
theorem dJ_isLatin1_17 : decode cJ_isLatin1 17 = .ok (.iconst 0, 1) := by decide +kernel
theorem dJ_isLatin1_18 : decode cJ_isLatin1 18 = .ok (.ireturn, 1) := by decide +kernel
def wJ_isLatin1 : List Cond := Cond.code yJ_isLatin1 cJ_isLatin1 1 (some .boolean) :: xTT
theorem gJ_isLatin1 : GoodIn xTT wJ_isLatin1 := good_cons mJ_isLatin1
theorem sJ_isLatin1 : Cond.instanceMethod yJ_isLatin1 ∈ xTT := tt_mem (i := 610) (by decide +kernel) rfl
theorem lJ_isLatin1 : Cond.selects "java/lang/String" yJ_isLatin1 yJ_isLatin1 ∈ xTT := tt_mem (i := 611) (by decide +kernel) rfl
theorem iJ_isLatin1 : Cond.initialized "java/lang/String" ∈ xTT := tt_mem (i := 140) (by decide +kernel) rfl
def yJ_length : MethodName := ⟨"java/lang/String", "length", "()I"⟩
def cJ_length : ByteArray := xbyt 598
theorem mJ_length : Cond.code yJ_length cJ_length 1 (some .int) ∈ xTT := tt_mem (i := 598) (xbyt_at (by decide +kernel)) rfl
theorem dJ_length_0 : decode cJ_length 0 = .ok (.aload_n 0, 1) := by decide +kernel
theorem dJ_length_1 : decode cJ_length 1 = .ok (.getfield 9, 3) := by decide +kernel
theorem dJ_length_4 : decode cJ_length 4 = .ok (.arraylength, 1) := by decide +kernel
theorem dJ_length_5 : decode cJ_length 5 = .ok (.aload_n 0, 1) := by decide +kernel
theorem dJ_length_6 : decode cJ_length 6 = .ok (.invokevirtual 335, 3) := by decide +kernel
theorem dJ_length_9 : decode cJ_length 9 = .ok (.ishr, 1) := by decide +kernel
theorem dJ_length_10 : decode cJ_length 10 = .ok (.ireturn, 1) := by decide +kernel
def wJ_length : List Cond := Cond.code yJ_length cJ_length 1 (some .int) :: xTT
theorem gJ_length : GoodIn xTT wJ_length := good_cons mJ_length
theorem sJ_length : Cond.instanceMethod yJ_length ∈ xTT := tt_mem (i := 596) (by decide +kernel) rfl
theorem lJ_length : Cond.selects "java/lang/String" yJ_length yJ_length ∈ xTT := tt_mem (i := 597) (by decide +kernel) rfl
theorem iJ_length : Cond.initialized "java/lang/String" ∈ xTT := tt_mem (i := 140) (by decide +kernel) rfl
def yJ_pcheck : MethodName := ⟨"jdk/internal/util/Preconditions", "checkIndex", "(IILjava/util/function/BiFunction;)I"⟩
def cJ_pcheck : ByteArray := xbyt 623
theorem mJ_pcheck : Cond.code yJ_pcheck cJ_pcheck 3 (some .int) ∈ xTT := tt_mem (i := 623) (xbyt_at (by decide +kernel)) rfl
theorem dJ_pcheck_0 : decode cJ_pcheck 0 = .ok (.iload_n 0, 1) := by decide +kernel
theorem dJ_pcheck_1 : decode cJ_pcheck 1 = .ok (.ifCond .lt 8, 3) := by decide +kernel
theorem dJ_pcheck_4 : decode cJ_pcheck 4 = .ok (.iload_n 0, 1) := by decide +kernel
theorem dJ_pcheck_5 : decode cJ_pcheck 5 = .ok (.iload_n 1, 1) := by decide +kernel
theorem dJ_pcheck_6 : decode cJ_pcheck 6 = .ok (.if_icmp .lt 10, 3) := by decide +kernel
theorem dJ_pcheck_16 : decode cJ_pcheck 16 = .ok (.iload_n 0, 1) := by decide +kernel
theorem dJ_pcheck_17 : decode cJ_pcheck 17 = .ok (.ireturn, 1) := by decide +kernel
def wJ_pcheck : List Cond := Cond.code yJ_pcheck cJ_pcheck 3 (some .int) :: xTT
theorem gJ_pcheck : GoodIn xTT wJ_pcheck := good_cons mJ_pcheck
theorem sJ_pcheck : Cond.static yJ_pcheck ∈ xTT := tt_mem (i := 622) (by decide +kernel) rfl
theorem iJ_pcheck : Cond.initialized "jdk/internal/util/Preconditions" ∈ xTT := tt_mem (i := 142) (by decide +kernel) rfl
def yJ_scheck : MethodName := ⟨"java/lang/String", "checkIndex", "(II)V"⟩
def cJ_scheck : ByteArray := xbyt 618
theorem mJ_scheck : Cond.code yJ_scheck cJ_scheck 2 (none) ∈ xTT := tt_mem (i := 618) (xbyt_at (by decide +kernel)) rfl
theorem dJ_scheck_0 : decode cJ_scheck 0 = .ok (.iload_n 0, 1) := by decide +kernel
theorem dJ_scheck_1 : decode cJ_scheck 1 = .ok (.iload_n 1, 1) := by decide +kernel
theorem dJ_scheck_2 : decode cJ_scheck 2 = .ok (.getstatic 1053, 3) := by decide +kernel
theorem dJ_scheck_5 : decode cJ_scheck 5 = .ok (.invokestatic 1059, 3) := by decide +kernel
theorem dJ_scheck_8 : decode cJ_scheck 8 = .ok (.pop, 1) := by decide +kernel
theorem dJ_scheck_9 : decode cJ_scheck 9 = .ok (.return_, 1) := by decide +kernel
def wJ_scheck : List Cond := Cond.code yJ_scheck cJ_scheck 2 (none) :: xTT
theorem gJ_scheck : GoodIn xTT wJ_scheck := good_cons mJ_scheck
theorem sJ_scheck : Cond.static yJ_scheck ∈ xTT := tt_mem (i := 617) (by decide +kernel) rfl
theorem iJ_scheck : Cond.initialized "java/lang/String" ∈ xTT := tt_mem (i := 140) (by decide +kernel) rfl
def yJ_lcharAt : MethodName := ⟨"java/lang/StringLatin1", "charAt", "([BI)C"⟩
def cJ_lcharAt : ByteArray := xbyt 615
theorem mJ_lcharAt : Cond.code yJ_lcharAt cJ_lcharAt 2 (some .char) ∈ xTT := tt_mem (i := 615) (xbyt_at (by decide +kernel)) rfl
theorem dJ_lcharAt_0 : decode cJ_lcharAt 0 = .ok (.iload_n 1, 1) := by decide +kernel
theorem dJ_lcharAt_1 : decode cJ_lcharAt 1 = .ok (.aload_n 0, 1) := by decide +kernel
theorem dJ_lcharAt_2 : decode cJ_lcharAt 2 = .ok (.arraylength, 1) := by decide +kernel
theorem dJ_lcharAt_3 : decode cJ_lcharAt 3 = .ok (.invokestatic 9, 3) := by decide +kernel
theorem dJ_lcharAt_6 : decode cJ_lcharAt 6 = .ok (.aload_n 0, 1) := by decide +kernel
theorem dJ_lcharAt_7 : decode cJ_lcharAt 7 = .ok (.iload_n 1, 1) := by decide +kernel
theorem dJ_lcharAt_8 : decode cJ_lcharAt 8 = .ok (.baload, 1) := by decide +kernel
theorem dJ_lcharAt_9 : decode cJ_lcharAt 9 = .ok (.sipush 255, 3) := by decide +kernel
theorem dJ_lcharAt_12 : decode cJ_lcharAt 12 = .ok (.iand, 1) := by decide +kernel
theorem dJ_lcharAt_13 : decode cJ_lcharAt 13 = .ok (.i2c, 1) := by decide +kernel
theorem dJ_lcharAt_14 : decode cJ_lcharAt 14 = .ok (.ireturn, 1) := by decide +kernel
def wJ_lcharAt : List Cond := Cond.code yJ_lcharAt cJ_lcharAt 2 (some .char) :: xTT
theorem gJ_lcharAt : GoodIn xTT wJ_lcharAt := good_cons mJ_lcharAt
theorem sJ_lcharAt : Cond.static yJ_lcharAt ∈ xTT := tt_mem (i := 614) (by decide +kernel) rfl
theorem iJ_lcharAt : Cond.initialized "java/lang/StringLatin1" ∈ xTT := tt_mem (i := 141) (by decide +kernel) rfl
def yJ_charAt : MethodName := ⟨"java/lang/String", "charAt", "(I)C"⟩
def cJ_charAt : ByteArray := xbyt 608
theorem mJ_charAt : Cond.code yJ_charAt cJ_charAt 2 (some .char) ∈ xTT := tt_mem (i := 608) (xbyt_at (by decide +kernel)) rfl
theorem dJ_charAt_0 : decode cJ_charAt 0 = .ok (.aload_n 0, 1) := by decide +kernel
theorem dJ_charAt_1 : decode cJ_charAt 1 = .ok (.invokevirtual 492, 3) := by decide +kernel
theorem dJ_charAt_4 : decode cJ_charAt 4 = .ok (.ifCond .eq 12, 3) := by decide +kernel
theorem dJ_charAt_7 : decode cJ_charAt 7 = .ok (.aload_n 0, 1) := by decide +kernel
theorem dJ_charAt_8 : decode cJ_charAt 8 = .ok (.getfield 9, 3) := by decide +kernel
theorem dJ_charAt_11 : decode cJ_charAt 11 = .ok (.iload_n 1, 1) := by decide +kernel
theorem dJ_charAt_12 : decode cJ_charAt 12 = .ok (.invokestatic 495, 3) := by decide +kernel
theorem dJ_charAt_15 : decode cJ_charAt 15 = .ok (.ireturn, 1) := by decide +kernel
def wJ_charAt : List Cond := Cond.code yJ_charAt cJ_charAt 2 (some .char) :: xTT
theorem gJ_charAt : GoodIn xTT wJ_charAt := good_cons mJ_charAt
theorem sJ_charAt : Cond.instanceMethod yJ_charAt ∈ xTT := tt_mem (i := 606) (by decide +kernel) rfl
theorem lJ_charAt : Cond.selects "java/lang/String" yJ_charAt yJ_charAt ∈ xTT := tt_mem (i := 607) (by decide +kernel) rfl
theorem iJ_charAt : Cond.initialized "java/lang/String" ∈ xTT := tt_mem (i := 140) (by decide +kernel) rfl
def yJ_isNaN : MethodName := ⟨"java/lang/Double", "isNaN", "(D)Z"⟩
def cJ_isNaN : ByteArray := xbyt 1738
theorem mJ_isNaN : Cond.code yJ_isNaN cJ_isNaN 2 (some .boolean) ∈ xTT := tt_mem (i := 1738) (xbyt_at (by decide +kernel)) rfl
theorem dJ_isNaN_0 : decode cJ_isNaN 0 = .ok (.dload_n 0, 1) := by decide +kernel
theorem dJ_isNaN_1 : decode cJ_isNaN 1 = .ok (.dload_n 0, 1) := by decide +kernel
theorem dJ_isNaN_2 : decode cJ_isNaN 2 = .ok (.dcmp .l, 1) := by decide +kernel
theorem dJ_isNaN_3 : decode cJ_isNaN 3 = .ok (.ifCond .eq 7, 3) := by decide +kernel
theorem dJ_isNaN_6 : decode cJ_isNaN 6 = .ok (.iconst 1, 1) := by decide +kernel
theorem dJ_isNaN_7 : decode cJ_isNaN 7 = .ok (.goto 4, 3) := by decide +kernel
theorem dJ_isNaN_10 : decode cJ_isNaN 10 = .ok (.iconst 0, 1) := by decide +kernel
theorem dJ_isNaN_11 : decode cJ_isNaN 11 = .ok (.ireturn, 1) := by decide +kernel
def wJ_isNaN : List Cond := Cond.code yJ_isNaN cJ_isNaN 2 (some .boolean) :: xTT
theorem gJ_isNaN : GoodIn xTT wJ_isNaN := good_cons mJ_isNaN
theorem sJ_isNaN : Cond.static yJ_isNaN ∈ xTT := tt_mem (i := 1737) (by decide +kernel) rfl
theorem iJ_isNaN : Cond.initialized "java/lang/Double" ∈ xTT := tt_mem (i := 145) (by decide +kernel) rfl
def yJ_d2lb : MethodName := ⟨"java/lang/Double", "doubleToLongBits", "(D)J"⟩
def cJ_d2lb : ByteArray := xbyt 1735
theorem mJ_d2lb : Cond.code yJ_d2lb cJ_d2lb 2 (some .long) ∈ xTT := tt_mem (i := 1735) (xbyt_at (by decide +kernel)) rfl
theorem dJ_d2lb_0 : decode cJ_d2lb 0 = .ok (.dload_n 0, 1) := by decide +kernel
theorem dJ_d2lb_1 : decode cJ_d2lb 1 = .ok (.invokestatic 122, 3) := by decide +kernel
theorem dJ_d2lb_4 : decode cJ_d2lb 4 = .ok (.ifCond .ne 8, 3) := by decide +kernel
theorem dJ_d2lb_7 : decode cJ_d2lb 7 = .ok (.dload_n 0, 1) := by decide +kernel
theorem dJ_d2lb_8 : decode cJ_d2lb 8 = .ok (.invokestatic 134, 3) := by decide +kernel
theorem dJ_d2lb_11 : decode cJ_d2lb 11 = .ok (.lreturn, 1) := by decide +kernel
def wJ_d2lb : List Cond := Cond.code yJ_d2lb cJ_d2lb 2 (some .long) :: xTT
theorem gJ_d2lb : GoodIn xTT wJ_d2lb := good_cons mJ_d2lb
theorem sJ_d2lb : Cond.static yJ_d2lb ∈ xTT := tt_mem (i := 1734) (by decide +kernel) rfl
theorem iJ_d2lb : Cond.initialized "java/lang/Double" ∈ xTT := tt_mem (i := 145) (by decide +kernel) rfl
theorem kJ_length_coder : Cond.methodLink "java/lang/String" 335 yJ_coder ∈ xTT := tt_mem (i := 599) (by decide +kernel) rfl
theorem kJ_charAt_isLatin1 : Cond.methodLink "java/lang/String" 492 yJ_isLatin1 ∈ xTT := tt_mem (i := 609) (by decide +kernel) rfl
theorem kJ_charAt_lcharAt : Cond.methodLink "java/lang/String" 495 yJ_lcharAt ∈ xTT := tt_mem (i := 613) (by decide +kernel) rfl
theorem kJ_lcharAt_scheck : Cond.methodLink "java/lang/StringLatin1" 9 yJ_scheck ∈ xTT := tt_mem (i := 616) (by decide +kernel) rfl
theorem kJ_scheck_pcheck : Cond.methodLink "java/lang/String" 1059 yJ_pcheck ∈ xTT := tt_mem (i := 621) (by decide +kernel) rfl
theorem kJ_d2lb_isNaN : Cond.methodLink "java/lang/Double" 122 yJ_isNaN ∈ xTT := tt_mem (i := 1736) (by decide +kernel) rfl
theorem kJ_t_length : Cond.methodLink "RouteStrides$Tape" 58 yJ_length ∈ xTT := tt_mem (i := 595) (by decide +kernel) rfl
theorem kJ_t_charAt : Cond.methodLink "RouteStrides$Tape" 100 yJ_charAt ∈ xTT := tt_mem (i := 605) (by decide +kernel) rfl
theorem kJ_m_length : Cond.methodLink "RouteStridesModel" 377 yJ_length ∈ xTT := tt_mem (i := 1559) (by decide +kernel) rfl
theorem kJ_m_charAt : Cond.methodLink "RouteStridesModel" 382 yJ_charAt ∈ xTT := tt_mem (i := 1560) (by decide +kernel) rfl
theorem kJ_m_d2lb : Cond.methodLink "RouteStridesModel" 481 yJ_d2lb ∈ xTT := tt_mem (i := 1733) (by decide +kernel) rfl
theorem kJ_d2lb_raw : Cond.methodLink "java/lang/Double" 134 ⟨"java/lang/Double", "doubleToRawLongBits", "(D)J"⟩ ∈ xTT := tt_mem (i := 1739) (by decide +kernel) rfl
theorem fJ_cs : Cond.fieldLink "java/lang/String" 38 "java/lang/String" "COMPACT_STRINGS" "Z" ∈ xTT := tt_mem (i := 603) (by decide +kernel) rfl
theorem fJ_coder : Cond.fieldLink "java/lang/String" 15 "java/lang/String" "coder" "B" ∈ xTT := tt_mem (i := 1828) (by decide +kernel) rfl
theorem fJ_value : Cond.fieldLink "java/lang/String" 9 "java/lang/String" "value" "[B" ∈ xTT := tt_mem (i := 1827) (by decide +kernel) rfl
theorem fJ_sio : Cond.fieldLink "java/lang/String" 1053 "jdk/internal/util/Preconditions" "SIOOBE_FORMATTER" "Ljava/util/function/BiFunction;" ∈ xTT := tt_mem (i := 619) (by decide +kernel) rfl
theorem nJ_raw : Cond.native ⟨"java/lang/Double", "doubleToRawLongBits", "(D)J"⟩ ∈ xTT := tt_mem (i := 1741) (by decide +kernel) rfl
theorem sJ_raw : Cond.static ⟨"java/lang/Double", "doubleToRawLongBits", "(D)J"⟩ ∈ xTT := tt_mem (i := 1740) (by decide +kernel) rfl
/-- the text constant and what its methods read -/
def xSt3 (q qv : Nat) (A : Nat → Prop) (U : State) : Prop := vk_S 1 [7] [[115, 116, 114, 105, 100, 101, 115]] (fun _ => q) (fun _ => qv) A U U.heap ∧ va_Z "java/lang/String" "COMPACT_STRINGS" "Z" (.int 1) A U U.heap ∧ va_Zq "jdk/internal/util/Preconditions" "SIOOBE_FORMATTER" "Ljava/util/function/BiFunction;" A U U.heap
theorem xSt3_same {q qv : Nat} {A : Nat → Prop} {u U : State} (hv : U.vm = u.vm) (hh : U.heap = u.heap) (h : xSt3 q qv A u) : xSt3 q qv A U := by
  have ha : u.vm.Alike U.vm := by rw [hv]; exact Vm.Alike.refl _
  exact ⟨by rw [hh]; exact vk_S.moved ha h.1, by rw [hh]; exact va_Z.moved ha h.2.1, by rw [hh]; exact va_Zq.moved ha h.2.2⟩
theorem xSt3_warm {q qv : Nat} {A : Nat → Prop} {s U : State} {H : Heap} {locs : List Loc} (hW : s.WarmedH U.vm) (hh : U.heap = H) (hS : va_S A s.heap H locs) (h : xSt3 q qv A s) : xSt3 q qv A U := by
  have ha : s.vm.Alike U.vm := hW.alike
  exact ⟨by rw [hh]; exact (vk_S.moved ha h.1).kept hS.2.1, by rw [hh]; exact (va_Z.moved ha h.2.1).kept hS.2.1, by rw [hh]; exact (va_Zq.moved ha h.2.2).kept hS.2.1⟩
def xQi (r : Int32) : Array Value → State → Outcome → State → Prop := vp_Si (fun x => x = r)
abbrev xF : Addr → Prop := fun _ => False
theorem strv_c {k : Nat} (hk : k < 7) : ((([115, 116, 114, 105, 100, 101, 115] : List Int32).getD k 0 &&& 255).toUInt32 % 65536).toInt32 = Int32.ofInt (strv k) ∧ narrow .char (.int (Int32.ofInt (strv k))) = .int (Int32.ofInt (strv k)) := by
  match k, hk with
  | 0, _ => exact ⟨by decide, by decide⟩
  | 1, _ => exact ⟨by decide, by decide⟩
  | 2, _ => exact ⟨by decide, by decide⟩
  | 3, _ => exact ⟨by decide, by decide⟩
  | 4, _ => exact ⟨by decide, by decide⟩
  | 5, _ => exact ⟨by decide, by decide⟩
  | 6, _ => exact ⟨by decide, by decide⟩
theorem cmp_same {α : Type} (f : Int) : compare f f = Ordering.eq := by
  rw [Int.compare_eq_eq]
theorem dok_dec {x : UInt64} (h : x &&& 0x7fffffffffffffff ≤ 0x7ff0000000000000) : FP.Core.decode FP.Core.b64 x.toNat ≠ FP.Core.Datum.nan := by
  have h1 : x.toNat % 9223372036854775808 ≤ 9218868437227405312 := by
    have h2 := UInt64.le_iff_toNat_le.mp h
    rw [UInt64.toNat_and] at h2
    have h3 : (0x7fffffffffffffff : UInt64).toNat = 2 ^ 63 - 1 := by decide
    rw [h3, Nat.and_two_pow_sub_one_eq_mod] at h2
    exact h2
  unfold FP.Core.decode
  split
  · rename_i he
    split
    · exact fun q => by cases q
    · rename_i ht
      exfalso
      apply ht
      have e1 : FP.Core.fieldE FP.Core.b64 x.toNat = x.toNat / 4503599627370496 % 2048 := rfl
      have e2 : FP.Core.fieldT FP.Core.b64 x.toNat = x.toNat % 4503599627370496 := rfl
      have e3 : FP.Core.Fmt.exps FP.Core.b64 - 1 = 2047 := rfl
      rw [e1, e3] at he
      rw [e2]
      omega
  · split
    · exact fun q => by cases q
    · exact fun q => by cases q
theorem dok_cmp {x : UInt64} (h : x &&& 0x7fffffffffffffff ≤ 0x7ff0000000000000) : Op.cmpValue (FP.dcmp x x) .l = 0 := by
  have h1 := dok_dec h
  unfold FP.dcmp FP.Core.dcmp FP.Core.cmp
  generalize FP.Core.decode FP.Core.b64 x.toNat = d at h1
  cases d with
  | nan => exact absurd rfl h1
  | inf s => simp only [FP.Core.order, cmp_same (α := Nat)]; rfl
  | fin s c q => simp only [FP.Core.order, cmp_same (α := Nat)]; rfl
set_option maxRecDepth 20000 in
theorem cJm_coder (l : Launch) {q qv : Nat} {A : Nat → Prop} : Met l yJ_coder wJ_coder { frames := 0, cells := 0, slots := 0, locals := 0 } (va_Pc [.ref q] (fun U => xSt3 q qv A U)) (xQi 0) 0 0 xF := by
  refine Met.ofW (cc := cJ_coder) (maxL := 1) (ret := (some .byte)) (by decide) rfl ?_
  intro p e s m args below meth c s₁ B hml hv
  obtain ⟨rfl, hE⟩ := hv
  have hx := B.exec
  have hb := B.bytes
  have hr := B.returns
  have hlocks := B.notSynchronized
  have hts0 := atoms_spec (ws := wJ_coder) B.pre
  have hts : ∀ w ∈ xTT, w.before _ s = true := fun w h => hts0 w (List.mem_cons_of_mem _ h)
  have hown : s.vm.findClass "java/lang/String" = some m.cls := findClass_of_methodNamed B.named
  have hS : va_S A s.heap s.heap [] := va_S.rf
  have hl := lv_entry ([.ref q]) (n := 1) (Nat.le_of_ble_eq_true rfl)
  rw [lg_entry_eq]
  generalize (lg_sl ([.ref q]) ++ List.replicate (1 - (lg_sl ([.ref q])).length) Slot.unset).toArray = ls at hl ⊢
  have hl : lv_has ls 1 [(0, .ref q)] := hl
  obtain ⟨hE1, hE2, hE3⟩ := hE
  refine va_gets hx hb hE2 hS hown (hts _ fJ_cs) (fun _ z => z) dJ_coder_0 ?_
  refine lv_if_eq (tgt := 13) hx hb dJ_coder_3 (by decide) (fun z => absurd z (by decide)) (fun _ => ?_)
  refine lv_aload_n hx hb dJ_coder_6 rfl (lv_at hl 0 rfl) ?_
  refine vk_getf hx hb (hE1.1 0 (by decide)).2.1 hS hown (hts _ fJ_coder) (fun _ z => z) dJ_coder_7 ?_
  refine lv_goto (tgt := 14) hx hb dJ_coder_10 (by decide) ?_
  exact W.zret (v := 0) hx hb hr rfl (fun t ht hW => ⟨0, rfl, rfl, ht⟩) (fun q hq => by cases hq) dJ_coder_14
set_option maxRecDepth 20000 in
theorem cJm_isLatin1 (l : Launch) {q qv : Nat} {A : Nat → Prop} : Met l yJ_isLatin1 wJ_isLatin1 { frames := 0, cells := 0, slots := 0, locals := 0 } (va_Pc [.ref q] (fun U => xSt3 q qv A U)) (xQi 1) 0 0 xF := by
  refine Met.ofW (cc := cJ_isLatin1) (maxL := 1) (ret := (some .boolean)) (by decide) rfl ?_
  intro p e s m args below meth c s₁ B hml hv
  obtain ⟨rfl, hE⟩ := hv
  have hx := B.exec
  have hb := B.bytes
  have hr := B.returns
  have hlocks := B.notSynchronized
  have hts0 := atoms_spec (ws := wJ_isLatin1) B.pre
  have hts : ∀ w ∈ xTT, w.before _ s = true := fun w h => hts0 w (List.mem_cons_of_mem _ h)
  have hown : s.vm.findClass "java/lang/String" = some m.cls := findClass_of_methodNamed B.named
  have hS : va_S A s.heap s.heap [] := va_S.rf
  have hl := lv_entry ([.ref q]) (n := 1) (Nat.le_of_ble_eq_true rfl)
  rw [lg_entry_eq]
  generalize (lg_sl ([.ref q]) ++ List.replicate (1 - (lg_sl ([.ref q])).length) Slot.unset).toArray = ls at hl ⊢
  have hl : lv_has ls 1 [(0, .ref q)] := hl
  obtain ⟨hE1, hE2, hE3⟩ := hE
  refine va_gets hx hb hE2 hS hown (hts _ fJ_cs) (fun _ z => z) dJ_isLatin1_0 ?_
  refine lv_if_eq (tgt := 17) hx hb dJ_isLatin1_3 (by decide) (fun z => absurd z (by decide)) (fun _ => ?_)
  refine lv_aload_n hx hb dJ_isLatin1_6 rfl (lv_at hl 0 rfl) ?_
  refine vk_getf hx hb (hE1.1 0 (by decide)).2.1 hS hown (hts _ fJ_coder) (fun _ z => z) dJ_isLatin1_7 ?_
  refine lv_if_ne (tgt := 17) hx hb dJ_isLatin1_10 (by decide) (fun z => absurd rfl z) (fun _ => ?_)
  refine lv_iconst (v := 1) hx hb dJ_isLatin1_13 rfl ?_
  refine lv_goto (tgt := 18) hx hb dJ_isLatin1_14 (by decide) ?_
  exact W.zret (v := 1) hx hb hr rfl (fun t ht hW => ⟨1, rfl, rfl, ht⟩) (fun q hq => by cases hq) dJ_isLatin1_18
set_option maxRecDepth 20000 in
theorem cJm_length (l : Launch) {q qv : Nat} {A : Nat → Prop} : Met l yJ_length wJ_length { frames := 1, cells := 0, slots := 0, locals := 20 } (va_Pc [.ref q] (fun U => xSt3 q qv A U)) (xQi 7) 0 0 xF := by
  refine Met.ofW (cc := cJ_length) (maxL := 1) (ret := (some .int)) (by decide) rfl ?_
  intro p e s m args below meth c s₁ B hml hv
  obtain ⟨rfl, hE⟩ := hv
  have hx := B.exec
  have hb := B.bytes
  have hr := B.returns
  have hlocks := B.notSynchronized
  have hts0 := atoms_spec (ws := wJ_length) B.pre
  have hts : ∀ w ∈ xTT, w.before _ s = true := fun w h => hts0 w (List.mem_cons_of_mem _ h)
  have hown : s.vm.findClass "java/lang/String" = some m.cls := findClass_of_methodNamed B.named
  have hS : va_S A s.heap s.heap [] := va_S.rf
  have hl := lv_entry ([.ref q]) (n := 1) (Nat.le_of_ble_eq_true rfl)
  rw [lg_entry_eq]
  generalize (lg_sl ([.ref q]) ++ List.replicate (1 - (lg_sl ([.ref q])).length) Slot.unset).toArray = ls at hl ⊢
  have hl : lv_has ls 1 [(0, .ref q)] := hl
  refine lv_aload_n hx hb dJ_length_0 rfl (lv_at hl 0 rfl) ?_
  refine vk_getf hx hb (hE.1.1 0 (by decide)).2.2.1 hS hown (hts _ fJ_value) (fun _ z => z) dJ_length_1 ?_
  refine va_tlen hx hb (hE.1.1 0 (by decide)).2.2.2 hS (v := 7) rfl dJ_length_4 ?_
  refine lv_aload_n hx hb dJ_length_5 rfl (lv_at hl 0 rfl) ?_
  refine vp_callSi (W.runV (As := []) (rest := [.int 7]) (C := "java/lang/String") (b := q) (nL := 1) ⟨hx, hb, hml, hown, hts⟩ (cJm_coder l) ⟨callB_of 0 hts gJ_coder rfl rfl rfl (hts _ iJ_coder) (hts _ kJ_length_coder) ⟨by decide, by decide, by decide +kernel⟩ ⟨Nat.le_of_ble_eq_true rfl, Nat.le_of_ble_eq_true rfl⟩, hts _ sJ_coder, hts _ lJ_coder⟩ ⟨fun a U g mk z => ⟨z.1, xSt3_same rfl rfl z.2⟩, vk_recv (i := 0) hE.1 (by decide) hS, fun U hU hW => ⟨rfl, xSt3_warm hW hU hS hE⟩⟩ rfl rfl hl.1 rfl (lv_room (Nat.le_of_ble_eq_true rfl)) dJ_length_6 ⟨Nat.le_refl _, Nat.le_refl _⟩) (fun r hr1 => ?_)
  subst hr1
  refine lv_ishr hx hb dJ_length_9 ?_
  exact W.zret (v := (7 : Int32) >>> ((0 : Int32) &&& 31)) hx hb hr rfl (fun t ht hW => ⟨(7 : Int32) >>> ((0 : Int32) &&& 31), rfl, rfl, ht⟩) (fun q hq => by cases hq) dJ_length_10
set_option maxRecDepth 20000 in
theorem cJm_pcheck0 (l : Launch) {q qv : Nat} {A : Nat → Prop} {i n : Int32} (h0 : ¬ i < 0) (h1 : i < n) : Met l yJ_pcheck wJ_pcheck { frames := 0, cells := 0, slots := 0, locals := 0 } (va_Pc [.int i, .int n, .null] (fun U => True)) (xQi i) 0 0 xF := by
  refine Met.ofW (cc := cJ_pcheck) (maxL := 3) (ret := (some .int)) (by decide) rfl ?_
  intro p e s m args below meth c s₁ B hml hv
  obtain ⟨rfl, hE⟩ := hv
  have hx := B.exec
  have hb := B.bytes
  have hr := B.returns
  have hlocks := B.notSynchronized
  have hts0 := atoms_spec (ws := wJ_pcheck) B.pre
  have hts : ∀ w ∈ xTT, w.before _ s = true := fun w h => hts0 w (List.mem_cons_of_mem _ h)
  have hown : s.vm.findClass "jdk/internal/util/Preconditions" = some m.cls := findClass_of_methodNamed B.named
  have hS : va_S A s.heap s.heap [] := va_S.rf
  have hl := lv_entry ([.int i, .int n, .null]) (n := 3) (Nat.le_of_ble_eq_true rfl)
  rw [lg_entry_eq]
  generalize (lg_sl ([.int i, .int n, .null]) ++ List.replicate (3 - (lg_sl ([.int i, .int n, .null])).length) Slot.unset).toArray = ls at hl ⊢
  have hl : lv_has ls 3 [(0, .int i), (1, .int n), (2, .null)] := hl
  refine lv_iload_n hx hb dJ_pcheck_0 rfl (lv_at hl 0 rfl) ?_
  refine lv_if_lt (tgt := 9) hx hb dJ_pcheck_1 (by decide) (fun z => absurd z h0) (fun _ => ?_)
  refine lv_iload_n hx hb dJ_pcheck_4 rfl (lv_at hl 0 rfl) ?_
  refine lv_iload_n hx hb dJ_pcheck_5 rfl (lv_at hl 1 rfl) ?_
  refine lv_icmp_lt (tgt := 16) hx hb dJ_pcheck_6 (by decide) (fun _ => ?_) (fun z => absurd h1 z)
  refine lv_iload_n hx hb dJ_pcheck_16 rfl (lv_at hl 0 rfl) ?_
  exact W.iret (v := i) hx hb hr (fun t ht hW => ⟨i, rfl, rfl, ht⟩) (fun q hq => by cases hq) dJ_pcheck_17
set_option maxRecDepth 20000 in
theorem cJm_pcheck1 (l : Launch) {q qv : Nat} {A : Nat → Prop} {tz : Nat} {i n : Int32} (h0 : ¬ i < 0) (h1 : i < n) : Met l yJ_pcheck wJ_pcheck { frames := 0, cells := 0, slots := 0, locals := 0 } (va_Pc [.int i, .int n, .ref tz] (fun U => True)) (xQi i) 0 0 xF := by
  refine Met.ofW (cc := cJ_pcheck) (maxL := 3) (ret := (some .int)) (by decide) rfl ?_
  intro p e s m args below meth c s₁ B hml hv
  obtain ⟨rfl, hE⟩ := hv
  have hx := B.exec
  have hb := B.bytes
  have hr := B.returns
  have hlocks := B.notSynchronized
  have hts0 := atoms_spec (ws := wJ_pcheck) B.pre
  have hts : ∀ w ∈ xTT, w.before _ s = true := fun w h => hts0 w (List.mem_cons_of_mem _ h)
  have hown : s.vm.findClass "jdk/internal/util/Preconditions" = some m.cls := findClass_of_methodNamed B.named
  have hS : va_S A s.heap s.heap [] := va_S.rf
  have hl := lv_entry ([.int i, .int n, .ref tz]) (n := 3) (Nat.le_of_ble_eq_true rfl)
  rw [lg_entry_eq]
  generalize (lg_sl ([.int i, .int n, .ref tz]) ++ List.replicate (3 - (lg_sl ([.int i, .int n, .ref tz])).length) Slot.unset).toArray = ls at hl ⊢
  have hl : lv_has ls 3 [(0, .int i), (1, .int n), (2, .ref tz)] := hl
  refine lv_iload_n hx hb dJ_pcheck_0 rfl (lv_at hl 0 rfl) ?_
  refine lv_if_lt (tgt := 9) hx hb dJ_pcheck_1 (by decide) (fun z => absurd z h0) (fun _ => ?_)
  refine lv_iload_n hx hb dJ_pcheck_4 rfl (lv_at hl 0 rfl) ?_
  refine lv_iload_n hx hb dJ_pcheck_5 rfl (lv_at hl 1 rfl) ?_
  refine lv_icmp_lt (tgt := 16) hx hb dJ_pcheck_6 (by decide) (fun _ => ?_) (fun z => absurd h1 z)
  refine lv_iload_n hx hb dJ_pcheck_16 rfl (lv_at hl 0 rfl) ?_
  exact W.iret (v := i) hx hb hr (fun t ht hW => ⟨i, rfl, rfl, ht⟩) (fun q hq => by cases hq) dJ_pcheck_17
set_option maxRecDepth 20000 in
theorem cJm_scheck (l : Launch) {q qv : Nat} {A : Nat → Prop} {i n : Int32} (h0 : ¬ i < 0) (h1 : i < n) : Met l yJ_scheck wJ_scheck { frames := 1, cells := 0, slots := 0, locals := 30 } (va_Pc [.int i, .int n] (fun U => va_Zq "jdk/internal/util/Preconditions" "SIOOBE_FORMATTER" "Ljava/util/function/BiFunction;" A U U.heap)) (va_Sv (fun _ => True)) 0 0 xF := by
  refine Met.ofW (cc := cJ_scheck) (maxL := 2) (ret := (none)) (by decide) rfl ?_
  intro p e s m args below meth c s₁ B hml hv
  obtain ⟨rfl, hE⟩ := hv
  have hx := B.exec
  have hb := B.bytes
  have hr := B.returns
  have hlocks := B.notSynchronized
  have hts0 := atoms_spec (ws := wJ_scheck) B.pre
  have hts : ∀ w ∈ xTT, w.before _ s = true := fun w h => hts0 w (List.mem_cons_of_mem _ h)
  have hown : s.vm.findClass "java/lang/String" = some m.cls := findClass_of_methodNamed B.named
  have hS : va_S A s.heap s.heap [] := va_S.rf
  have hl := lv_entry ([.int i, .int n]) (n := 2) (Nat.le_of_ble_eq_true rfl)
  rw [lg_entry_eq]
  generalize (lg_sl ([.int i, .int n]) ++ List.replicate (2 - (lg_sl ([.int i, .int n])).length) Slot.unset).toArray = ls at hl ⊢
  have hl : lv_has ls 2 [(0, .int i), (1, .int n)] := hl
  refine lv_iload_n hx hb dJ_scheck_0 rfl (lv_at hl 0 rfl) ?_
  refine lv_iload_n hx hb dJ_scheck_1 rfl (lv_at hl 1 rfl) ?_
  rcases hE with hZ | ⟨tz, hZ⟩
  · refine va_gets hx hb hZ hS hown (hts _ fJ_sio) (fun _ z => z) dJ_scheck_2 ?_
    refine vp_callSi (W.runS (As := [.int i, .int n, .null]) (rest := []) (nL := 2) ⟨hx, hb, hml, hown, hts⟩ (cJm_pcheck0 l (q := 0) (qv := 0) (A := A) h0 h1) ⟨callB_of 3 hts gJ_pcheck rfl rfl rfl (hts _ iJ_pcheck) (hts _ kJ_scheck_pcheck) ⟨by decide, by decide, by decide +kernel⟩ ⟨Nat.le_of_ble_eq_true rfl, Nat.le_of_ble_eq_true rfl⟩, hts _ sJ_pcheck⟩ ⟨fun a U g mk z => z, fun U hU hW => ⟨rfl, trivial⟩⟩ rfl rfl hl.1 rfl (lv_room (Nat.le_of_ble_eq_true rfl)) dJ_scheck_5 ⟨Nat.le_refl _, Nat.le_refl _⟩) (fun r hr1 => ?_)
    subst hr1
    refine lv_pop hx hb dJ_scheck_8 rfl ?_
    exact W.vret hx hb hr (fun t ht hW => ⟨rfl, trivial, ht⟩) (fun q hq => by cases hq) dJ_scheck_9
  · refine va_gets hx hb hZ hS hown (hts _ fJ_sio) (fun _ z => z) dJ_scheck_2 ?_
    refine vp_callSi (W.runS (As := [.int i, .int n, .ref tz]) (rest := []) (nL := 2) ⟨hx, hb, hml, hown, hts⟩ (cJm_pcheck1 l (q := 0) (qv := 0) (A := A) h0 h1) ⟨callB_of 3 hts gJ_pcheck rfl rfl rfl (hts _ iJ_pcheck) (hts _ kJ_scheck_pcheck) ⟨by decide, by decide, by decide +kernel⟩ ⟨Nat.le_of_ble_eq_true rfl, Nat.le_of_ble_eq_true rfl⟩, hts _ sJ_pcheck⟩ ⟨fun a U g mk z => z, fun U hU hW => ⟨rfl, trivial⟩⟩ rfl rfl hl.1 rfl (lv_room (Nat.le_of_ble_eq_true rfl)) dJ_scheck_5 ⟨Nat.le_refl _, Nat.le_refl _⟩) (fun r hr1 => ?_)
    subst hr1
    refine lv_pop hx hb dJ_scheck_8 rfl ?_
    exact W.vret hx hb hr (fun t ht hW => ⟨rfl, trivial, ht⟩) (fun q hq => by cases hq) dJ_scheck_9
set_option maxRecDepth 20000 in
theorem cJm_lcharAt (l : Launch) {q qv : Nat} {A : Nat → Prop} {k : Nat} (hk : k < 7) : Met l yJ_lcharAt wJ_lcharAt { frames := 2, cells := 0, slots := 0, locals := 60 } (va_Pc [.ref qv, .int (nI k)] (fun U => xSt3 q qv A U)) (xQi (Int32.ofInt (strv k))) 0 0 xF := by
  refine Met.ofW (cc := cJ_lcharAt) (maxL := 2) (ret := (some .char)) (by decide) rfl ?_
  intro p e s m args below meth c s₁ B hml hv
  obtain ⟨rfl, hE⟩ := hv
  have hx := B.exec
  have hb := B.bytes
  have hr := B.returns
  have hlocks := B.notSynchronized
  have hts0 := atoms_spec (ws := wJ_lcharAt) B.pre
  have hts : ∀ w ∈ xTT, w.before _ s = true := fun w h => hts0 w (List.mem_cons_of_mem _ h)
  have hown : s.vm.findClass "java/lang/StringLatin1" = some m.cls := findClass_of_methodNamed B.named
  have hS : va_S A s.heap s.heap [] := va_S.rf
  have hl := lv_entry ([.ref qv, .int (nI k)]) (n := 2) (Nat.le_of_ble_eq_true rfl)
  rw [lg_entry_eq]
  generalize (lg_sl ([.ref qv, .int (nI k)]) ++ List.replicate (2 - (lg_sl ([.ref qv, .int (nI k)])).length) Slot.unset).toArray = ls at hl ⊢
  have hl : lv_has ls 2 [(0, .ref qv), (1, .int (nI k))] := hl
  refine lv_iload_n hx hb dJ_lcharAt_0 rfl (lv_at hl 1 rfl) ?_
  refine lv_aload_n hx hb dJ_lcharAt_1 rfl (lv_at hl 0 rfl) ?_
  refine va_tlen hx hb (hE.1.1 0 (by decide)).2.2.2 hS (v := 7) rfl dJ_lcharAt_2 ?_
  refine va_csv (W.runS (As := [.int (nI k), .int 7]) (rest := []) (nL := 2) ⟨hx, hb, hml, hown, hts⟩ (cJm_scheck l (q := 0) (qv := 0) (A := A) (nI_pos (by omega)) (show nI k < nI 7 from nI_lt hk (by decide))) ⟨callB_of 2 hts gJ_scheck rfl rfl rfl (hts _ iJ_scheck) (hts _ kJ_lcharAt_scheck) ⟨by decide, by decide, by decide +kernel⟩ ⟨Nat.le_of_ble_eq_true rfl, Nat.le_of_ble_eq_true rfl⟩, hts _ sJ_scheck⟩ ⟨fun a U g mk z => ⟨z.1, va_Zq.moved (u := U) (U := U.calling g mk a) (Vm.Alike.refl U.vm) z.2⟩, fun U hU hW => ⟨rfl, (xSt3_warm hW hU hS hE).2.2⟩⟩ rfl rfl hl.1 rfl (lv_room (Nat.le_of_ble_eq_true rfl)) dJ_lcharAt_3 ⟨Nat.le_refl _, Nat.le_refl _⟩) (fun _ => ?_)
  refine lv_aload_n hx hb dJ_lcharAt_6 rfl (lv_at hl 0 rfl) ?_
  refine lv_iload_n hx hb dJ_lcharAt_7 rfl (lv_at hl 1 rfl) ?_
  refine va_tb hx hb (hE.1.1 0 (by decide)).2.2.2 hS (vp_in_nI hk (by decide)) (v := .int (([115, 116, 114, 105, 100, 101, 115] : List Int32).getD k 0)) (by rw [nI_clamp (by omega)]; rfl) dJ_lcharAt_8 ?_
  refine lv_sipush (v := 255) hx hb dJ_lcharAt_9 (by decide) ?_
  refine lv_iand hx hb dJ_lcharAt_12 ?_
  refine lv_i2c (v := Int32.ofInt (strv k)) hx hb dJ_lcharAt_13 (strv_c hk).1 ?_
  exact W.zret (v := Int32.ofInt (strv k)) hx hb hr (strv_c hk).2 (fun t ht hW => ⟨_, rfl, rfl, ht⟩) (fun q hq => by cases hq) dJ_lcharAt_14
set_option maxRecDepth 20000 in
theorem cJm_charAt (l : Launch) {q qv : Nat} {A : Nat → Prop} {k : Nat} (hk : k < 7) : Met l yJ_charAt wJ_charAt { frames := 3, cells := 0, slots := 0, locals := 90 } (va_Pc [.ref q, .int (nI k)] (fun U => xSt3 q qv A U)) (xQi (Int32.ofInt (strv k))) 0 0 xF := by
  refine Met.ofW (cc := cJ_charAt) (maxL := 2) (ret := (some .char)) (by decide) rfl ?_
  intro p e s m args below meth c s₁ B hml hv
  obtain ⟨rfl, hE⟩ := hv
  have hx := B.exec
  have hb := B.bytes
  have hr := B.returns
  have hlocks := B.notSynchronized
  have hts0 := atoms_spec (ws := wJ_charAt) B.pre
  have hts : ∀ w ∈ xTT, w.before _ s = true := fun w h => hts0 w (List.mem_cons_of_mem _ h)
  have hown : s.vm.findClass "java/lang/String" = some m.cls := findClass_of_methodNamed B.named
  have hS : va_S A s.heap s.heap [] := va_S.rf
  have hl := lv_entry ([.ref q, .int (nI k)]) (n := 2) (Nat.le_of_ble_eq_true rfl)
  rw [lg_entry_eq]
  generalize (lg_sl ([.ref q, .int (nI k)]) ++ List.replicate (2 - (lg_sl ([.ref q, .int (nI k)])).length) Slot.unset).toArray = ls at hl ⊢
  have hl : lv_has ls 2 [(0, .ref q), (1, .int (nI k))] := hl
  refine lv_aload_n hx hb dJ_charAt_0 rfl (lv_at hl 0 rfl) ?_
  refine vp_callSi (W.runV (As := []) (rest := []) (C := "java/lang/String") (b := q) (nL := 2) ⟨hx, hb, hml, hown, hts⟩ (cJm_isLatin1 l) ⟨callB_of 0 hts gJ_isLatin1 rfl rfl rfl (hts _ iJ_isLatin1) (hts _ kJ_charAt_isLatin1) ⟨by decide, by decide, by decide +kernel⟩ ⟨Nat.le_of_ble_eq_true rfl, Nat.le_of_ble_eq_true rfl⟩, hts _ sJ_isLatin1, hts _ lJ_isLatin1⟩ ⟨fun a U g mk z => ⟨z.1, xSt3_same rfl rfl z.2⟩, vk_recv (i := 0) hE.1 (by decide) hS, fun U hU hW => ⟨rfl, xSt3_warm hW hU hS hE⟩⟩ rfl rfl hl.1 rfl (lv_room (Nat.le_of_ble_eq_true rfl)) dJ_charAt_1 ⟨Nat.le_refl _, Nat.le_refl _⟩) (fun r hr1 => ?_)
  subst hr1
  refine lv_if_eq (tgt := 16) hx hb dJ_charAt_4 (by decide) (fun z => absurd z (by decide)) (fun _ => ?_)
  refine lv_aload_n hx hb dJ_charAt_7 rfl (lv_at hl 0 rfl) ?_
  refine vk_getf hx hb (hE.1.1 0 (by decide)).2.2.1 hS hown (hts _ fJ_value) (fun _ z => z) dJ_charAt_8 ?_
  refine lv_iload_n hx hb dJ_charAt_11 rfl (lv_at hl 1 rfl) ?_
  refine vp_callSi (W.runS (As := [.ref qv, .int (nI k)]) (rest := []) (nL := 2) ⟨hx, hb, hml, hown, hts⟩ (cJm_lcharAt l (q := q) (A := A) hk) ⟨callB_of 2 hts gJ_lcharAt rfl rfl rfl (hts _ iJ_lcharAt) (hts _ kJ_charAt_lcharAt) ⟨by decide, by decide, by decide +kernel⟩ ⟨Nat.le_of_ble_eq_true rfl, Nat.le_of_ble_eq_true rfl⟩, hts _ sJ_lcharAt⟩ ⟨fun a U g mk z => ⟨z.1, xSt3_same rfl rfl z.2⟩, fun U hU hW => ⟨rfl, xSt3_warm hW hU hS hE⟩⟩ rfl rfl hl.1 rfl (lv_room (Nat.le_of_ble_eq_true rfl)) dJ_charAt_12 ⟨Nat.le_refl _, Nat.le_refl _⟩) (fun r hr1 => ?_)
  subst hr1
  exact W.zret (v := Int32.ofInt (strv k)) hx hb hr (strv_c hk).2 (fun t ht hW => ⟨_, rfl, rfl, ht⟩) (fun q hq => by cases hq) dJ_charAt_15
set_option maxRecDepth 20000 in
theorem cJm_isNaN (l : Launch) {q qv : Nat} {A : Nat → Prop} {x : UInt64} (hxn : x &&& 0x7fffffffffffffff ≤ 0x7ff0000000000000) : Met l yJ_isNaN wJ_isNaN { frames := 0, cells := 0, slots := 0, locals := 0 } (va_Pc [.double x] (fun U => True)) (xQi 0) 0 0 xF := by
  refine Met.ofW (cc := cJ_isNaN) (maxL := 2) (ret := (some .boolean)) (by decide) rfl ?_
  intro p e s m args below meth c s₁ B hml hv
  obtain ⟨rfl, hE⟩ := hv
  have hx := B.exec
  have hb := B.bytes
  have hr := B.returns
  have hlocks := B.notSynchronized
  have hts0 := atoms_spec (ws := wJ_isNaN) B.pre
  have hts : ∀ w ∈ xTT, w.before _ s = true := fun w h => hts0 w (List.mem_cons_of_mem _ h)
  have hown : s.vm.findClass "java/lang/Double" = some m.cls := findClass_of_methodNamed B.named
  have hS : va_S A s.heap s.heap [] := va_S.rf
  have hl := lv_entry ([.double x]) (n := 2) (Nat.le_of_ble_eq_true rfl)
  rw [lg_entry_eq]
  generalize (lg_sl ([.double x]) ++ List.replicate (2 - (lg_sl ([.double x])).length) Slot.unset).toArray = ls at hl ⊢
  have hl : lv_has ls 2 [(0, .double x)] := hl
  refine lv_dload_n hx hb dJ_isNaN_0 rfl (lv_at hl 0 rfl) ?_
  refine lv_dload_n hx hb dJ_isNaN_1 rfl (lv_at hl 0 rfl) ?_
  refine lv_dcmp hx hb dJ_isNaN_2 ?_
  refine lv_if_eq (tgt := 10) hx hb dJ_isNaN_3 (by decide) (fun _ => ?_) (fun z => absurd (dok_cmp hxn) z)
  refine lv_iconst (v := 0) hx hb dJ_isNaN_10 rfl ?_
  exact W.zret (v := 0) hx hb hr rfl (fun t ht hW => ⟨0, rfl, rfl, ht⟩) (fun q hq => by cases hq) dJ_isNaN_11
set_option maxRecDepth 20000 in
theorem cJm_d2lb (l : Launch) {A : Nat → Prop} {x : UInt64} (hxn : x &&& 0x7fffffffffffffff ≤ 0x7ff0000000000000) : Met l yJ_d2lb wJ_d2lb { frames := 1, cells := 0, slots := 0, locals := 40 } (va_Pc [.double x] (fun U => True)) (vp_Sl (fun r => r = x.toInt64)) 0 0 xF := by
  refine Met.ofW (cc := cJ_d2lb) (maxL := 2) (ret := (some .long)) (by decide) rfl ?_
  intro p e s m args below meth c s₁ B hml hv
  obtain ⟨rfl, hE⟩ := hv
  have hx := B.exec
  have hb := B.bytes
  have hr := B.returns
  have hlocks := B.notSynchronized
  have hts0 := atoms_spec (ws := wJ_d2lb) B.pre
  have hts : ∀ w ∈ xTT, w.before _ s = true := fun w h => hts0 w (List.mem_cons_of_mem _ h)
  have hown : s.vm.findClass "java/lang/Double" = some m.cls := findClass_of_methodNamed B.named
  have hS : va_S A s.heap s.heap [] := va_S.rf
  have hl := lv_entry ([.double x]) (n := 2) (Nat.le_of_ble_eq_true rfl)
  rw [lg_entry_eq]
  generalize (lg_sl ([.double x]) ++ List.replicate (2 - (lg_sl ([.double x])).length) Slot.unset).toArray = ls at hl ⊢
  have hl : lv_has ls 2 [(0, .double x)] := hl
  refine lv_dload_n hx hb dJ_d2lb_0 rfl (lv_at hl 0 rfl) ?_
  refine vp_callSi (W.runS (As := [.double x]) (rest := []) (nL := 2) ⟨hx, hb, hml, hown, hts⟩ (cJm_isNaN l (q := 0) (qv := 0) (A := A) hxn) ⟨callB_of 1 hts gJ_isNaN rfl rfl rfl (hts _ iJ_isNaN) (hts _ kJ_d2lb_isNaN) ⟨by decide, by decide, by decide +kernel⟩ ⟨Nat.le_of_ble_eq_true rfl, Nat.le_of_ble_eq_true rfl⟩, hts _ sJ_isNaN⟩ ⟨fun a U g mk z => z, fun U hU hW => ⟨rfl, trivial⟩⟩ rfl rfl hl.1 rfl (lv_room (Nat.le_of_ble_eq_true rfl)) dJ_d2lb_1 ⟨Nat.le_refl _, Nat.le_refl _⟩) (fun r hr1 => ?_)
  subst hr1
  refine lv_if_ne (tgt := 12) hx hb dJ_d2lb_4 (by decide) (fun z => absurd rfl z) (fun _ => ?_)
  refine lv_dload_n hx hb dJ_d2lb_7 rfl (lv_at hl 0 rfl) ?_
  refine vn_d2l hx hb (by rw [hml]; exact hl.1.symm) hown (hts _ kJ_d2lb_raw) (hts _ nJ_raw) (hts _ sJ_raw) (hts _ iJ_d2lb) (Nat.le_of_ble_eq_true rfl) (Nat.le_of_ble_eq_true rfl) dJ_d2lb_8 ?_
  exact W.lret (v := x.toInt64) hx hb hr (fun t ht hW => ⟨_, rfl, rfl, ht⟩) (fun q hq => by cases hq) dJ_d2lb_11
end
section
theorem isR_9 {v : xV} (h : isR v = true) : v.1 ≠ 9 := by
  intro e
  unfold isR at h
  rw [e] at h
  cases h
theorem st1_len (L : List xV) (i : Nat) (v : xV) : (st1 L i v).length = L.length := by
  unfold st1
  rw [List.length_set, cut1_len]
theorem st2_len (L : List xV) (i : Nat) (v : xV) : (st2 L i v).length = L.length := by
  unfold st2
  rw [List.length_set, List.length_set, cut1_len]
theorem cat1 {G : xG} {v : xV} (h : (!two v) = true) : (mkV G v).category = 1 := by
  rw [two_cat]
  cases hv : two v
  · rfl
  · rw [hv] at h; cases h
theorem u64_ok {SH : xSH} (x : UInt64) : okV SH (xD (x.toNat : Int)) := by
  show 0 ≤ (x.toNat : Int) ∧ (x.toNat : Int) < 18446744073709551616
  have := x.toNat_lt
  omega
theorem nar_z {x : Int} (h : x = 0 ∨ x = 1) : vp_nar .boolean (Int32.ofInt x) = Int32.ofInt x := by rcases h with rfl | rfl <;> rfl
theorem nar_b {x : Int} : vp_nar .byte (Int32.ofInt x) = Int32.ofInt (i2b x) := by
  rw [vp_nar_byte]
  exact (Int32.ofInt_toInt _).symm
theorem strv_ok {SH : xSH} (j : Int) : okV SH (xI (strv j)) := by
  show i32 (strv j)
  unfold strv
  generalize j.toNat = q
  match q with
  | 0 => exact ⟨by decide, by decide⟩
  | 1 => exact ⟨by decide, by decide⟩
  | 2 => exact ⟨by decide, by decide⟩
  | 3 => exact ⟨by decide, by decide⟩
  | 4 => exact ⟨by decide, by decide⟩
  | 5 => exact ⟨by decide, by decide⟩
  | 6 => exact ⟨by decide, by decide⟩
  | n + 7 => exact ⟨by show (-2147483648 : Int) ≤ 0; decide, by show (0 : Int) < 2147483648; decide⟩
theorem chkMa_in {own idx : Nat} {y : MethodName} (h : chkMa own idx y = true) : Cond.methodLink (xcn own) idx y ∈ xTT := by
  unfold chkMa at h
  obtain ⟨q, -, hq⟩ := List.any_eq_true.mp h
  simp only [Bool.and_eq_true, decide_eq_true_eq] at hq
  exact tt_mem hq.2.2 rfl
theorem ma_2 : Cond.initialized "java/lang/Math" ∈ xTT := tt_mem (i := 139) (by decide +kernel) rfl
theorem ma_1 : Cond.static Lib.Math.min.name ∈ xTT := tt_mem (i := 549) (by decide +kernel) rfl
theorem ma_3 : Cond.code Lib.Math.min.name Lib.Math.min.code 2 (some .int) ∈ xTT := tt_mem (i := 550) (by decide +kernel) rfl
theorem mb_1 : Cond.static Lib.MathLoose.max_long.x ∈ xTT := tt_mem (i := 931) (by decide +kernel) rfl
theorem mb_3 : Cond.code Lib.MathLoose.max_long.x Lib.MathLoose.max_long.code 4 (some .long) ∈ xTT := tt_mem (i := 932) (by decide +kernel) rfl
theorem mc_1 : Cond.static Lib.MathLoose.min_long.x ∈ xTT := tt_mem (i := 860) (by decide +kernel) rfl
theorem mc_3 : Cond.code Lib.MathLoose.min_long.x Lib.MathLoose.min_long.code 4 (some .long) ∈ xTT := tt_mem (i := 861) (by decide +kernel) rfl
section XRows
variable {p : Program} {l : Launch} {e : Env} {R : Room} {s : State} {m : MethodId} {args : Array Value} {below : List Frame} {meth : Method} {c : Code} {H : Heap} {locs : List Loc} {cells slots : Nat} {Q : State → Prop}
variable {cc : ByteArray} {pc : Nat} {ls : Array Slot} {rest : List Value} {D : va_G} {cl : List vw_C} {A : Nat → Prop} {a : Nat} {tys : List (ClassId × FieldType)} {ws : va_W} {H0 : Heap}
theorem x_aldr (hexec : p.tables.exec = Jvm.exec) (hb : c.code = cc) (hK : va_K D cl tys s) (hP : va_P D cl ws H) (q0 t0 : Nat) {cA : ClassId} {n : Nat} {f : Nat → Option Nat} (ha : ws[q0]? = some (a, .inl (cA, n, .inr (.inr (.inr (.inr f)))))) (ht : tys[t0]? = some (cA, .array .long)) {i : Int32} (hin : vp_in i n) (hdg : decode cc pc = .ok (.aaload, 1))
    (kk : W p l e R s m args below meth c H locs cells slots Q (F0 m (pc + 1) ls (va_rf (f i.toNatClampNeg) :: rest))) : W p l e R s m args below meth c H locs cells slots Q (F0 m pc ls (.int i :: .ref a :: rest)) := by
  have hlt : i.toNatClampNeg < n := Nat.not_le.mp fun q => hin (Or.inr q)
  exact W.aald (v := va_rf (f i.toNatClampNeg)) (ty := .array .long) hexec hb (hP q0 _ ha) ((hK.2 t0 _ ht).1 n (fun j => va_rf (f j))) rfl (fun q => by cases q) (by show ¬ (i < 0 ∨ (arrV _ _ _).slots.size ≤ _); rw [arrV_size]; exact hin) (by show (arrV _ _ _).slots[_]? = _; rw [arrV_read _ _ hlt]) rfl rfl hdg kk
theorem x_ldcwS (hexec : p.tables.exec = Jvm.exec) (hb : c.code = cc) {own tx : String} {index q : Nat} (hown : s.vm.findClass own = some m.cls) (hZ : vk_R own index tx q s) (hdg : decode cc pc = .ok (.ldc_w index, 3))
    (k : W p l e R s m args below meth c H locs cells slots Q (F0 m (pc + 3) ls (.ref q :: rest))) : W p l e R s m args below meth c H locs cells slots Q (F0 m pc ls rest) := by
  intro T hT X
  obtain ⟨t, a1, b1⟩ := k T hT X
  refine ⟨t, ?_, b1⟩
  obtain ⟨kk, cf, i, a', hk, hcf, hcp, -, hr, hev'⟩ := Cond.stringRef_spec (args := #[]) hown hZ.1
  cases hZ.2.symm.trans hev'
  obtain ⟨k', hk', he⟩ := X.warmed.alike.2.2 _ _ hk
  have hr' : k'.resolved[index]? = some (some (.string q)) := by
    rcases X.warmed.entry hk hk' index with h | ⟨h, -⟩
    · rw [h]; exact hr
    · rw [hr] at h; cases h
  jvm_step X.here [hexec, hb, hdg, ldc_w.wp_string (e := e) (s := T) (f := F0 m pc ls rest) X.here.top hk' (by rw [he]; exact hcf) hcp hr']
  exact a1
theorem x_lif (hexec : p.tables.exec = Jvm.exec) (hb : c.code = cc) {o : ClassFile.Cond} {off : Int} {tgt : Nat} {x y : Int} (hdg : decode cc (pc + 1) = .ok (.ifCond o off, 3)) (ht : ((pc + 1 : Nat) : Int) + off = (tgt : Int)) (hx : i64 x) (hy : i64 y)
    (kt : cnd o x y → W p l e R s m args below meth c H locs cells slots Q (F0 m tgt ls rest)) (kf : ¬ cnd o x y → W p l e R s m args below meth c H locs cells slots Q (F0 m (pc + 4) ls rest)) : W p l e R s m args below meth c H locs cells slots Q (F0 m (pc + 1) ls (.int (lg_cmp (Int64.ofInt x) (Int64.ofInt y)) :: rest)) := by
  cases o with
  | eq => exact lv_if_eq hexec hb hdg ht (fun q => kt ((e64 hx hy).mp ((lg_cmp_eq _ _).mp q))) (fun q => kf (fun z => q ((lg_cmp_eq _ _).mpr ((e64 hx hy).mpr z))))
  | ne => exact lv_if_ne hexec hb hdg ht (fun q => kt (fun z => q ((lg_cmp_eq _ _).mpr ((e64 hx hy).mpr z)))) (fun q => kf (fun z => z ((e64 hx hy).mp ((lg_cmp_eq _ _).mp q))))
  | lt => exact lv_if_lt hexec hb hdg ht (fun q => kt ((l64 hx hy).mp ((lg_cmp_lt _ _).mp q))) (fun q => kf (fun z => q ((lg_cmp_lt _ _).mpr ((l64 hx hy).mpr z))))
  | ge => exact lv_if_ge hexec hb hdg ht (fun q => kt ((le64 hy hx).mp ((lg_cmp_ge _ _).mp q))) (fun q => kf (fun z => q ((lg_cmp_ge _ _).mpr ((le64 hy hx).mpr z))))
  | gt => exact lv_if_gt hexec hb hdg ht (fun q => kt ((l64 hy hx).mp ((lg_cmp_gt _ _).mp q))) (fun q => kf (fun z => q ((lg_cmp_gt _ _).mpr ((l64 hy hx).mpr z))))
  | le => exact lv_if_le hexec hb hdg ht (fun q => kt ((le64 hx hy).mp ((lg_cmp_le _ _).mp q))) (fun q => kf (fun z => q ((lg_cmp_le _ _).mpr ((le64 hx hy).mpr z))))
theorem xSt3_of {G : xG} {cA : Nat → ClassId} {D : va_G} {A : Nat → Prop} {Ls : Nat} {xs : Nat → Int32} {s : State} (hst : xStat G cA D A Ls xs s) : ∃ qv, xSt3 G.2.1 qv A s := by
  obtain ⟨qv, h1, -, -, h4, h5⟩ := hst.2.1
  exact ⟨qv, h1, h4, h5⟩
theorem x_strlen {G : xG} {cA : Nat → ClassId} {D : va_G} {A : Nat → Prop} {Ls : Nat} {xs : Nat → Int32} {own idx : Nat} {ml : Nat} {T : List xV} {L : List xV} (hexec : p.tables.exec = Jvm.exec) (hb : c.code = cc) (hml : c.maxLocals = ml) (hown : s.vm.findClass (xcn own) = some m.cls) (hts : ∀ w ∈ xTT, w.before args s = true) (hst : xStat G cA D A Ls xs s) (hS : va_S A s.heap H locs) (hl1 : ls.size = L.length) (hl2 : L.length = ml) (hf : 8 ≤ R.frames) (hlo : 200 ≤ R.locals) (hc : cells ≤ R.cells) (hsl : slots ≤ R.slots)
    (hI : chkLen own idx = true) (hw : wid T ≤ 8) (hd : decode cc pc = .ok (.invokevirtual idx, 3)) (kk : W p l e R s m args below meth c H locs cells slots Q (F0 m (pc + 3) ls (.int (Int32.ofInt 7) :: T.map (mkV G)))) : W p l e R s m args below meth c H locs cells slots Q (F0 m pc ls (.ref G.2.1 :: T.map (mkV G))) := by
  obtain ⟨qv, hE⟩ := xSt3_of hst
  have hwd : 2 * (F0 m pc ls (.ref G.2.1 :: T.map (mkV G))).monitorRoom + ((T.map (mkV G)).map fun v => v.category).sum ≤ 8 := by
    rw [wid_cat]
    show 2 * 0 + _ ≤ 8
    omega
  simp only [chkLen, Bool.or_eq_true, Bool.and_eq_true] at hI
  rcases hI with ⟨e1, e2⟩ | ⟨e1, e2⟩
  · cases Nat.eq_of_beq_eq_true e1
    cases Nat.eq_of_beq_eq_true e2
    have hown : s.vm.findClass "RouteStrides$Tape" = some m.cls := hown
    exact vp_callSi (W.runV (As := []) (rest := T.map (mkV G)) (C := "java/lang/String") (b := G.2.1) (nL := ml) ⟨hexec, hb, hml, hown, hts⟩ (cJm_length l (q := G.2.1) (qv := qv) (A := A)) ⟨callB_of 0 hts gJ_length rfl rfl rfl (hts _ iJ_length) (hts _ kJ_t_length) ⟨by decide, by decide, by decide +kernel⟩ ⟨Nat.le_trans (m := 8) (by decide) hf, Nat.le_trans (m := 200) (by decide) hlo⟩, hts _ sJ_length, hts _ lJ_length⟩ ⟨fun a U g mk z => ⟨z.1, xSt3_same rfl rfl z.2⟩, vk_recv (i := 0) hE.1 (by decide) hS, fun U hU hW => ⟨rfl, xSt3_warm hW hU hS hE⟩⟩ rfl rfl (hl1.trans hl2) rfl hwd hd ⟨hc, hsl⟩) (fun r hr1 => by subst hr1; exact kk)
  · cases Nat.eq_of_beq_eq_true e1
    cases Nat.eq_of_beq_eq_true e2
    have hown : s.vm.findClass "RouteStridesModel" = some m.cls := hown
    exact vp_callSi (W.runV (As := []) (rest := T.map (mkV G)) (C := "java/lang/String") (b := G.2.1) (nL := ml) ⟨hexec, hb, hml, hown, hts⟩ (cJm_length l (q := G.2.1) (qv := qv) (A := A)) ⟨callB_of 0 hts gJ_length rfl rfl rfl (hts _ iJ_length) (hts _ kJ_m_length) ⟨by decide, by decide, by decide +kernel⟩ ⟨Nat.le_trans (m := 8) (by decide) hf, Nat.le_trans (m := 200) (by decide) hlo⟩, hts _ sJ_length, hts _ lJ_length⟩ ⟨fun a U g mk z => ⟨z.1, xSt3_same rfl rfl z.2⟩, vk_recv (i := 0) hE.1 (by decide) hS, fun U hU hW => ⟨rfl, xSt3_warm hW hU hS hE⟩⟩ rfl rfl (hl1.trans hl2) rfl hwd hd ⟨hc, hsl⟩) (fun r hr1 => by subst hr1; exact kk)
theorem x_charAt {G : xG} {cA : Nat → ClassId} {D : va_G} {A : Nat → Prop} {Ls : Nat} {xs : Nat → Int32} {own idx : Nat} {ml : Nat} {T : List xV} {L : List xV} {j : Int} (hexec : p.tables.exec = Jvm.exec) (hb : c.code = cc) (hml : c.maxLocals = ml) (hown : s.vm.findClass (xcn own) = some m.cls) (hts : ∀ w ∈ xTT, w.before args s = true) (hst : xStat G cA D A Ls xs s) (hS : va_S A s.heap H locs) (hl1 : ls.size = L.length) (hl2 : L.length = ml) (hf : 8 ≤ R.frames) (hlo : 200 ≤ R.locals) (hc : cells ≤ R.cells) (hsl : slots ≤ R.slots)
    (hI : chkAt own idx = true) (hw : wid T ≤ 8) (hj : 0 ≤ j ∧ j < ((7 : Nat) : Int)) (hd : decode cc pc = .ok (.invokevirtual idx, 3)) (kk : W p l e R s m args below meth c H locs cells slots Q (F0 m (pc + 3) ls (.int (Int32.ofInt (strv j)) :: T.map (mkV G)))) : W p l e R s m args below meth c H locs cells slots Q (F0 m pc ls (.int (Int32.ofInt j) :: .ref G.2.1 :: T.map (mkV G))) := by
  obtain ⟨qv, hE⟩ := xSt3_of hst
  obtain ⟨k, rfl, hk⟩ := j_in hj
  have hwd : 2 * (F0 m pc ls (.int (Int32.ofInt (k : Int)) :: .ref G.2.1 :: T.map (mkV G))).monitorRoom + ((T.map (mkV G)).map fun v => v.category).sum ≤ 8 := by
    rw [wid_cat]
    show 2 * 0 + _ ≤ 8
    omega
  simp only [chkAt, Bool.or_eq_true, Bool.and_eq_true] at hI
  rcases hI with ⟨e1, e2⟩ | ⟨e1, e2⟩
  · cases Nat.eq_of_beq_eq_true e1
    cases Nat.eq_of_beq_eq_true e2
    have hown : s.vm.findClass "RouteStrides$Tape" = some m.cls := hown
    exact vp_callSi (W.runV (As := [.int (nI k)]) (rest := T.map (mkV G)) (C := "java/lang/String") (b := G.2.1) (nL := ml) ⟨hexec, hb, hml, hown, hts⟩ (cJm_charAt l (q := G.2.1) (qv := qv) (A := A) hk) ⟨callB_of 1 hts gJ_charAt rfl rfl rfl (hts _ iJ_charAt) (hts _ kJ_t_charAt) ⟨by decide, by decide, by decide +kernel⟩ ⟨Nat.le_trans (m := 8) (by decide) hf, Nat.le_trans (m := 200) (by decide) hlo⟩, hts _ sJ_charAt, hts _ lJ_charAt⟩ ⟨fun a U g mk z => ⟨z.1, xSt3_same rfl rfl z.2⟩, vk_recv (i := 0) hE.1 (by decide) hS, fun U hU hW => ⟨rfl, xSt3_warm hW hU hS hE⟩⟩ rfl rfl (hl1.trans hl2) rfl hwd hd ⟨hc, hsl⟩) (fun r hr1 => by subst hr1; exact kk)
  · cases Nat.eq_of_beq_eq_true e1
    cases Nat.eq_of_beq_eq_true e2
    have hown : s.vm.findClass "RouteStridesModel" = some m.cls := hown
    exact vp_callSi (W.runV (As := [.int (nI k)]) (rest := T.map (mkV G)) (C := "java/lang/String") (b := G.2.1) (nL := ml) ⟨hexec, hb, hml, hown, hts⟩ (cJm_charAt l (q := G.2.1) (qv := qv) (A := A) hk) ⟨callB_of 1 hts gJ_charAt rfl rfl rfl (hts _ iJ_charAt) (hts _ kJ_m_charAt) ⟨by decide, by decide, by decide +kernel⟩ ⟨Nat.le_trans (m := 8) (by decide) hf, Nat.le_trans (m := 200) (by decide) hlo⟩, hts _ sJ_charAt, hts _ lJ_charAt⟩ ⟨fun a U g mk z => ⟨z.1, xSt3_same rfl rfl z.2⟩, vk_recv (i := 0) hE.1 (by decide) hS, fun U hU hW => ⟨rfl, xSt3_warm hW hU hS hE⟩⟩ rfl rfl (hl1.trans hl2) rfl hwd hd ⟨hc, hsl⟩) (fun r hr1 => by subst hr1; exact kk)
theorem x_d2l {G : xG} {cA : Nat → ClassId} {D : va_G} {A : Nat → Prop} {Ls : Nat} {xs : Nat → Int32} {ml : Nat} {T : List xV} {L : List xV} {x : Int} (hexec : p.tables.exec = Jvm.exec) (hb : c.code = cc) (hml : c.maxLocals = ml) (hown : s.vm.findClass (xcn 9) = some m.cls) (hts : ∀ w ∈ xTT, w.before args s = true) (hst : xStat G cA D A Ls xs s) (hS : va_S A s.heap H locs) (hl1 : ls.size = L.length) (hl2 : L.length = ml) (hf : 8 ≤ R.frames) (hlo : 200 ≤ R.locals) (hc : cells ≤ R.cells) (hsl : slots ≤ R.slots)
    (hk : dok x) (hw : wid T ≤ 8) (hd : decode cc pc = .ok (.invokestatic 481, 3)) (kk : W p l e R s m args below meth c H locs cells slots Q (F0 m (pc + 3) ls (.long (Int64.ofInt (d2l x)) :: T.map (mkV G)))) : W p l e R s m args below meth c H locs cells slots Q (F0 m pc ls (.double (UInt64.ofNat x.toNat) :: T.map (mkV G))) := by
  have hwd : 2 * (F0 m pc ls (.double (UInt64.ofNat x.toNat) :: T.map (mkV G))).monitorRoom + ((T.map (mkV G)).map fun v => v.category).sum ≤ 8 := by
    rw [wid_cat]
    show 2 * 0 + _ ≤ 8
    omega
  have hown : s.vm.findClass "RouteStridesModel" = some m.cls := hown
  unfold d2l at kk
  rw [Int64.ofInt_toInt] at kk
  exact vp_callSl (W.runS (As := [.double (UInt64.ofNat x.toNat)]) (rest := T.map (mkV G)) (nL := ml) ⟨hexec, hb, hml, hown, hts⟩ (cJm_d2lb l (A := A) hk) ⟨callB_of 1 hts gJ_d2lb rfl rfl rfl (hts _ iJ_d2lb) (hts _ kJ_m_d2lb) ⟨by decide, by decide, by decide +kernel⟩ ⟨Nat.le_trans (m := 8) (by decide) hf, Nat.le_trans (m := 200) (by decide) hlo⟩, hts _ sJ_d2lb⟩ ⟨fun a U g mk z => z, fun U hU hW => ⟨rfl, trivial⟩⟩ rfl rfl (hl1.trans hl2) rfl hwd hd ⟨hc, hsl⟩) (fun r hr1 => by subst hr1; exact kk)
end XRows
-- calls
theorem sd_i {d : Nat} {k : Nat → Prop} (h : sd d k) : ∃ n, d = n + 1 ∧ k n := by
  unfold sd at h; split at h
  · exact h.elim
  · exact ⟨_, rfl, h⟩
def xov (G : xG) (r : xV) : Option Value := match r.1 with
  | 9 => none
  | _ => some (mkV G r)
def xRk (b : Nat) (r : xV) : Prop := match r.1 with
  | 0 => b = 0 ∨ b = 1
  | 1 => b = 2
  | 9 => b = 3
  | _ => False
def xQc (SH : xSH) (G : xG) (cA : Nat → ClassId) (D : va_G) (A : Nat → Prop) (Ls : Nat) (xs : Nat → Int32) (b : Nat) (q : xQ) : Array Value → State → Outcome → State → Prop := fun _ st o t =>
  (∃ r N, o = .returned (xov G r) ∧ q r N ∧ okV SH r ∧ xRk b r ∧ va_P D xcl (xW SH G cA N) t.heap ∧ va_D A (xW SH G cA N) ∧ okM SH N ∧ xScr Ls xs N) ∧ va_F A st t
theorem lay1_args (G : xG) : ∀ (as : List xV) (j i : Nat) (v : xV), (lay1 as)[i]? = some v → v.1 ≠ 9 → (j + i, mkV G v) ∈ lv_args j (as.map (mkV G))
  | [], _, _, _, h, _ => by simp [lay1] at h
  | w :: ws, j, i, v, h, h9 => by
    rw [List.map_cons, lv_args, two_cat]
    rw [lay1] at h
    cases hw : two w with
    | true =>
      rw [hw] at h
      match i, h with
      | 0, h => cases h; exact List.mem_cons_self
      | 1, h => cases h; exact absurd rfl h9
      | i + 2, h =>
        refine List.mem_cons_of_mem _ ?_
        have := lay1_args G ws (j + 2) i v h h9
        rw [show j + 2 + i = j + (i + 2) by omega] at this
        exact this
    | false =>
      rw [hw] at h
      match i, h with
      | 0, h => cases h; exact List.mem_cons_self
      | i + 1, h =>
        refine List.mem_cons_of_mem _ ?_
        have := lay1_args G ws (j + 1) i v h h9
        rw [show j + 1 + i = j + (i + 1) by omega] at this
        exact this
theorem lay1_len (G : xG) : ∀ as : List xV, (lg_sl (as.map (mkV G))).length = (lay1 as).length
  | [] => rfl
  | w :: ws => by
    have ih := lay1_len G ws
    unfold lg_sl at ih ⊢
    rw [List.map_cons, List.flatMap_cons, List.length_append, ih, two_cat, lay1]
    cases two w <;> simp <;> omega
theorem lay_len {as : List xV} {n : Nat} (h : (lay1 as).length ≤ n) : (lay as n).length = n := by
  unfold lay
  rw [List.length_append, List.length_replicate]
  omega
theorem LR_entry {G : xG} {as : List xV} {n : Nat} (h : (lay1 as).length ≤ n) : LR G ((lg_sl (as.map (mkV G)) ++ List.replicate (n - (lg_sl (as.map (mkV G))).length) Slot.unset).toArray) (lay as n) := by
  have hl := lv_entry (as.map (mkV G)) (n := n) (by rw [lay1_len]; exact h)
  refine ⟨by rw [hl.1, lay_len h], hl.2.1, fun i v hi h9 => ?_⟩
  unfold lay at hi
  by_cases hlt : i < (lay1 as).length
  · rw [List.getElem?_append_left hlt] at hi
    have := hl.2.2 _ (lay1_args G as 0 i v hi h9)
    simpa using this
  · rw [List.getElem?_append_right (by omega)] at hi
    have := List.mem_of_getElem? hi
    rw [List.eq_of_mem_replicate this] at h9
    exact absurd rfl h9
theorem okV_lay {SH : xSH} {n : Nat} : ∀ {as : List xV}, (∀ v ∈ as, okV SH v) → ∀ v ∈ lay as n, okV SH v := by
  intro as h v hv
  unfold lay at hv
  rcases List.mem_append.mp hv with q | q
  · have : ∀ (bs : List xV), (∀ v ∈ bs, okV SH v) → ∀ v ∈ lay1 bs, okV SH v := by
      intro bs
      induction bs with
      | nil => intro _ v hv; simp [lay1] at hv
      | cons w ws ih =>
        intro hb v hv
        obtain ⟨hw, hws⟩ := okt hb
        rw [lay1] at hv
        cases h2 : two w with
        | true =>
          rw [h2] at hv
          rcases List.mem_cons.mp hv with e | e
          · rw [e]; exact hw
          · rcases List.mem_cons.mp e with e | e
            · rw [e]; trivial
            · exact ih hws v e
        | false =>
          rw [h2] at hv
          rcases List.mem_cons.mp hv with e | e
          · rw [e]; exact hw
          · exact ih hws v e
    exact this as h v q
  · rw [List.eq_of_mem_replicate q]; trivial
theorem xStat_same {G : xG} {cA : Nat → ClassId} {D : va_G} {A : Nat → Prop} {Ls : Nat} {xs : Nat → Int32} {u U : State} (hv : U.vm = u.vm) (hh : U.heap = u.heap) (h : xStat G cA D A Ls xs u) : xStat G cA D A Ls xs U := by
  have ha : u.vm.Alike U.vm := by rw [hv]; exact Vm.Alike.refl _
  obtain ⟨h1, ⟨qv, h2, h3, h4, h5, h6⟩, h7, h8, h9, h10⟩ := h
  exact ⟨va_K.moved ha h1, ⟨qv, by rw [hh]; exact vk_S.moved ha h2, vk_R.same hv h3, vk_R.same hv h4, by rw [hh]; exact va_Z.moved ha h5, by rw [hh]; exact va_Zq.moved ha h6⟩, by rw [hh]; exact va_X.moved ha h7, by rw [hh]; exact h8, h9, fun o i y hm => va_Nw.same rfl hv.symm (h10 o i y hm)⟩
theorem xStat_warm {G : xG} {cA : Nat → ClassId} {D : va_G} {A : Nat → Prop} {Ls : Nat} {xs : Nat → Int32} {s U : State} {H : Heap} {locs : List Loc} (hW : s.WarmedH U.vm) (hh : U.heap = H) (hS : va_S A s.heap H locs) (h : xStat G cA D A Ls xs s) : xStat G cA D A Ls xs U := by
  have ha : s.vm.Alike U.vm := hW.alike
  obtain ⟨h1, ⟨qv, h2, h3, h4, h5, h6⟩, h7, h8, h9, h10⟩ := h
  exact ⟨va_K.moved ha h1, ⟨qv, by rw [hh]; exact (vk_S.moved ha h2).kept hS.2.1, vk_R.warm hW h3, vk_R.warm hW h4, by rw [hh]; exact (va_Z.moved ha h5).kept hS.2.1, by rw [hh]; exact (va_Zq.moved ha h6).kept hS.2.1⟩, by rw [hh]; exact (va_X.moved ha h7).kept (hS.2.1 _ h8 h9), by rw [hh]; exact Nat.lt_of_lt_of_le h8 hS.1, h9, fun o i y hm => va_Nw.warmM hW (h10 o i y hm)⟩
theorem bol_0 {r : Option FieldType} (h : bol r = 0) : r = some .int := by
  unfold bol at h; split at h <;> first | rfl | (cases h; done)
theorem bol_1 {r : Option FieldType} (h : bol r = 1) : r = some .boolean := by
  unfold bol at h; split at h <;> first | rfl | (cases h; done)
theorem bol_2 {r : Option FieldType} (h : bol r = 2) : r = some .long := by
  unfold bol at h; split at h <;> first | rfl | (cases h; done)
theorem bol_3 {r : Option FieldType} (h : bol r = 3) : r = none := by
  unfold bol at h; split at h <;> first | rfl | (cases h; done)
theorem code_mem {t : xT} (h : xtok t = true) : Cond.code t.2.2.1 (xbyt t.2.2.2.2.2.1) t.2.2.2.1 t.2.2.2.2.1 ∈ xTT := by
  obtain ⟨own, st, y, maxL, ret, pc, pi, pk, ps, np⟩ := t
  simp only [xtok, Bool.and_eq_true] at h
  have h2 := h.2.1
  unfold xbyt
  dsimp only
  cases hl : lw_tbl[pc]? with
  | none => rw [hl] at h2; cases h2
  | some w =>
    rw [hl] at h2
    cases w <;> first | (cases h2; done) | skip
    simp only [Bool.and_eq_true, decide_eq_true_eq] at h2
    obtain ⟨e1, e2, e3⟩ := h2
    subst e1; subst e2; subst e3
    exact tt_mem hl rfl
theorem sMv_i {n : Nat} {A B C : Prop} (h : sMv n A B C) : (n = 9001 ∧ A) ∨ (n = 9002 ∧ B) ∨ (n ≠ 9001 ∧ n ≠ 9002 ∧ C) := by
  unfold sMv at h; split at h
  · exact Or.inl ⟨rfl, h⟩
  · exact Or.inr (Or.inl ⟨rfl, h⟩)
  · rename_i h1 h2
    exact Or.inr (Or.inr ⟨h1, h2, h⟩)
theorem sMs_i {n : Nat} {A B B2 B3 C : Prop} (h : sMs n A B B2 B3 C) : (n = 9003 ∧ A) ∨ (n = 9004 ∧ B) ∨ (n = 9005 ∧ B2) ∨ (n = 9006 ∧ B3) ∨ (n ≠ 9003 ∧ n ≠ 9004 ∧ n ≠ 9005 ∧ n ≠ 9006 ∧ C) := by
  unfold sMs at h; split at h
  · exact Or.inl ⟨rfl, h⟩
  · exact Or.inr (Or.inl ⟨rfl, h⟩)
  · exact Or.inr (Or.inr (Or.inl ⟨rfl, h⟩))
  · exact Or.inr (Or.inr (Or.inr (Or.inl ⟨rfl, h⟩)))
  · rename_i h1 h2 h3 h4
    exact Or.inr (Or.inr (Or.inr (Or.inr ⟨h1, h2, h3, h4, h⟩)))
theorem x_back {SH : xSH} {G : xG} {cA : Nat → ClassId} {D : va_G} {A : Nat → Prop} {Ls : Nat} {xs : Nat → Int32} {p : Program} {l : Launch} {e : Env} {R : Room} {s : State} {m : MethodId} {args : Array Value} {below : List Frame} {meth : Method} {c : Code} {H : Heap} {locs : List Loc} {cells slots : Nat} {Q : State → Prop} {pc b : Nat} {ls : Array Slot} {rest st0 : List Value} {a : Array Value} {q : xQ}
    (hr : va_Run p l e R s m args below meth c H locs cells slots 0 0 (F0 m pc ls st0) rest (xQc SH G cA D A Ls xs b q a) A) (hS : va_S A s.heap H locs)
    (kk : ∀ (r : xV) (N : xM) (H1 : Heap) (locs1 : List Loc), q r N → okV SH r → xRk b r → xDyn SH G cA D A Ls xs s.heap N H1 locs1 → W p l e R s m args below meth c H1 locs1 cells slots Q (F0 m (pc + 3) ls ((xov G r).toList ++ rest))) : W p l e R s m args below meth c H locs cells slots Q (F0 m pc ls st0) := by
  intro T hT X
  obtain ⟨v, st₀, t, T', L, h0, X', hL, e1, e2, ⟨⟨r, N, hv, hq, ho, hk2, hP, hD, hM, hSc⟩, hz, hk⟩, st⟩ := hr T hT X
  cases hv
  rw [h0] at hz hk
  obtain ⟨t2, a1, b1⟩ := kk r N T'.heap (locs ++ L) hq ho hk2 ⟨by rw [e1]; exact hP, hD, ⟨Nat.le_trans hS.1 (by rw [e1]; exact hz), fun q h1 h2 => by rw [e1, hk q (Nat.lt_of_lt_of_le h1 hS.1) h2]; exact hS.2.1 q h1 h2, fun q hq => by
      rcases List.mem_append.mp hq with h | h
      · exact hS.2.2 q h
      · exact hL q h⟩, hM, hSc⟩ T' rfl X'
  exact ⟨t2, st t2 a1, b1⟩
theorem push_eq {G : xG} {b a4 : Nat} {r : xV} {T : List xV} {ret : Option FieldType} (hb : b = bol ret) (hk : xRk b r) (h4 : ret4 a4 ret = true) : (xov G r).toList ++ T.map (mkV G) = (pushr a4 r T).map (mkV G) := by
  subst hb
  obtain ⟨tg, n, x⟩ := r
  unfold xRk at hk
  dsimp only at hk
  cases a4 with
  | zero =>
    have e : ret = none := of_decide_eq_true h4
    subst e
    split at hk
    · rcases hk with hk | hk <;> cases hk
    · cases hk
    · rfl
    · exact hk.elim
  | succ n =>
    have e : ret ≠ none := of_decide_eq_true h4
    split at hk
    · rfl
    · rfl
    · exact absurd (bol_3 hk) e
    · exact hk.elim
theorem okV_push {SH : xSH} {a4 : Nat} {r : xV} {T : List xV} (hr : okV SH r) (hT : ∀ v ∈ T, okV SH v) : ∀ v ∈ pushr a4 r T, okV SH v := by
  unfold pushr
  split
  · exact hT
  · exact okc hr hT
theorem map_split (G : xG) (S : List xV) (n : Nat) : S.map (mkV G) = (((S.take n).reverse).map (mkV G)).reverse ++ (S.drop n).map (mkV G) := by
  rw [List.map_reverse, List.reverse_reverse, ← List.map_append, List.take_append_drop]
theorem mts_len : mts.length = 264 := by decide +kernel
set_option maxRecDepth 100000 in
theorem mts_tok {k : Nat} {t : xT} (h : mts[k]? = some t) (hk : k ≠ kLaw_law) : xtok t = true := by
  have hlt : k < 264 := by
    have := (List.getElem?_eq_some_iff.mp h).1
    rw [mts_len] at this
    exact this
  have key : ∀ t ∈ mts.take 263, xtok t = true := by
    have e : mts.take 263 = mts_0 ++ mts_1 ++ mts_2 ++ mts_3 ++ mts_4 ++ mts_5 ++ mts_6.dropLast := by rfl
    rw [e]
    intro t ht
    simp only [List.mem_append] at ht
    rcases ht with ((((((h | h) | h) | h) | h) | h) | h)
    · exact List.all_eq_true.mp mts_ok_0 t h
    · exact List.all_eq_true.mp mts_ok_1 t h
    · exact List.all_eq_true.mp mts_ok_2 t h
    · exact List.all_eq_true.mp mts_ok_3 t h
    · exact List.all_eq_true.mp mts_ok_4 t h
    · exact List.all_eq_true.mp mts_ok_5 t h
    · exact List.all_eq_true.mp mts_ok_6 t h
  refine key t (List.mem_of_getElem? (i := k) ?_)
  rw [List.getElem?_take_of_lt (by have : k ≠ 263 := hk; omega)]
  exact h
theorem mts_max : mts.all (fun t => Nat.ble t.2.2.2.1 40) = true := by decide +kernel
theorem x_met {SH : xSH} {G : xG} {cA : Nat → ClassId} {D : va_G} {A : Nat → Prop} {Ls : Nat} {xs : Nat → Int32} {l : Launch} {k d : Nat} {t : xT} {M : xM} {q : xQ} {as : List xV} (hk : mts[k]? = some t) (hnl : k ≠ kLaw_law) (ht : xtok t = true) (hl : (lay1 as).length ≤ t.2.2.2.1) (hok : ∀ v ∈ as, okV SH v) (hD : va_D A (xW SH G cA M)) (hM : okM SH M) (hS : xScr Ls xs M)
    (h : xSim SH G cA D A Ls xs l d k 0 (lay as t.2.2.2.1) [] M q) :
    Met l t.2.2.1 (Cond.code t.2.2.1 (xbyt t.2.2.2.2.2.1) t.2.2.2.1 t.2.2.2.2.1 :: xTT) { frames := d + 8, cells := 0, slots := 0, locals := 60 * d + 200 } (va_Pc (as.map (mkV G)) (fun U => xStat G cA D A Ls xs U ∧ va_P D xcl (xW SH G cA M) U.heap)) (xQc SH G cA D A Ls xs (bol t.2.2.2.2.1) q) 0 0 A := by
  have ht2 := ht
  obtain ⟨own, st, y, maxL, ret, pc, pi, pk, ps, np⟩ := t
  simp only [xtok, Bool.and_eq_true, decide_eq_true_eq] at ht2
  obtain ⟨hcn, -, -, -, hpl, -⟩ := ht2
  refine Met.ofW (cc := xbyt pc) (maxL := maxL) (ret := ret) hpl rfl ?_
  intro p e s m args below meth c s₁ B hml hv
  obtain ⟨rfl, hst, hP0⟩ := hv
  have hts := atoms_spec (ws := Cond.code y (xbyt pc) maxL ret :: xTT) B.pre
  have hown : s.vm.findClass y.cls = some m.cls := findClass_of_methodNamed B.named
  have hr := B.returns
  have hlocks := B.notSynchronized
  rw [lg_entry_eq]
  refine h _ p e _ s m _ below meth c 0 0 _ ⟨hk, B.exec, ?_, hml, ?_, fun w hw => hts w (List.mem_cons_of_mem _ hw), hst, Nat.le_refl _, Nat.le_refl _, Nat.le_refl _, Nat.le_refl _⟩ ?_ s.heap [] _ ⟨hP0, hD, va_S.rf, hM, hS⟩ (LR_entry hl) (lay_len hl) (okV_lay hok) (fun _ hv => by cases hv)
  · rw [xcc, if_neg hnl]; exact B.bytes
  · rw [hcn]; exact hown
  · intro v N H locs pc' ls ins hq hv hdy hd hret
    have hb : c.code = xcc k (own, st, y, maxL, ret, pc, pi, pk, ps, np) := by rw [xcc, if_neg hnl]; exact B.bytes
    obtain ⟨tg, n, x⟩ := v
    unfold xRet at hret
    dsimp only at hret
    have fin : ∀ (o : Option Value) (hov : o = xov G (tg, n, x)) (hk2 : xRk (bol ret) (tg, n, x)) (u : State), u.heap = H → s.WarmedH u.vm → xQc SH G cA D A Ls xs (bol ret) q (as.map (mkV G)).toArray s (.returned o) u := fun o hov hk2 u hu hW => ⟨⟨(tg, n, x), N, by rw [hov], hq, hv, hk2, by rw [hu]; exact hdy.1, hdy.2.1, hdy.2.2.2.1, hdy.2.2.2.2⟩, hdy.2.2.1.F hu⟩
    split at hret
    · obtain ⟨rfl, h2⟩ := hret
      rcases h2 with h2 | ⟨h2, h3⟩
      · have e := bol_0 h2
        subst e
        exact W.iret (v := Int32.ofInt x) B.exec hb hr (fin _ rfl (Or.inl rfl)) hdy.2.2.1.2.2 hd
      · have e := bol_1 h2
        subst e
        exact W.zret (v := Int32.ofInt x) B.exec hb hr (by rcases h3 with h3 | h3 <;> (have h3 : x = _ := h3; subst h3; rfl)) (fin _ rfl (Or.inr rfl)) hdy.2.2.1.2.2 hd
    · obtain ⟨rfl, h2⟩ := hret
      have e := bol_2 h2
      subst e
      exact W.lret (v := Int64.ofInt x) B.exec hb hr (fin _ rfl rfl) hdy.2.2.1.2.2 hd
    · obtain ⟨rfl, h2⟩ := hret
      have e := bol_3 h2
      subst e
      exact W.vret B.exec hb hr (fin _ rfl rfl) hdy.2.2.1.2.2 hd
    · exact hret.elim
set_option maxHeartbeats 8000000 in
set_option maxRecDepth 20000 in
theorem xSim_closed {SH : xSH} {G : xG} {cA : Nat → ClassId} {D : va_G} {A : Nat → Prop} {Ls : Nat} {xs : Nat → Int32} {l : Launch}
    (hAll : ∀ (k : Nat) (t : xT), mts[k]? = some t → ∀ e ∈ xC k, chkI t.1 (bol t.2.2.2.2.1) t.2.2.2.1 e = true ∧ chkD (xcc k t) e = true) : xClosed xC (xSim SH G cA D A Ls xs l) := by
  intro d k L S M Q e0 he0 h t p e R s m args below meth c cells slots Qf hC hH H locs ls hDy hL hlen hLo hSo
  obtain ⟨hmt, hx, hb, hml, hown, hts, hst, hrf, hrl, hrc, hrs⟩ := id hC
  obtain ⟨hI, hDd⟩ := hAll k t hmt e0 he0
  have go : ∀ {pc' : Nat} {L' S' : List xV} {M' : xM} {H' : Heap} {locs' : List Loc} {ls' : Array Slot}, xSim SH G cA D A Ls xs l d k pc' L' S' M' Q → xDyn SH G cA D A Ls xs s.heap M' H' locs' → LR G ls' L' → L'.length = t.2.2.2.1 → (∀ v ∈ L', okV SH v) → (∀ v ∈ S', okV SH v) → W p l e R s m args below meth c H' locs' cells slots Qf (F0 m pc' ls' (S'.map (mkV G))) := fun h1 h2 h3 h4 h5 h6 => h1 t p e R s m args below meth c cells slots Qf hC hH _ _ _ h2 h3 h4 h5 h6
  obtain ⟨pc, ins, len, a1, a2, a3, a4, c0, ts⟩ := e0
  cases ins <;> try (exact h.elim)
  case iconst n =>
    simp only [chkI, Bool.and_eq_true, decide_eq_true_eq] at hI
    obtain ⟨h1, h2, h3⟩ := hI
    cases Nat.eq_of_beq_eq_true h1
    have hd := of_decide_eq_true hDd
    subst h2
    exact lv_iconst hx hb hd rfl (go h hDy hL hlen hLo (okc (r32_i h3) hSo))
  case bipush n =>
    simp only [chkI, Bool.and_eq_true, decide_eq_true_eq] at hI
    obtain ⟨h1, h2, h3⟩ := hI
    cases Nat.eq_of_beq_eq_true h1
    have hd := of_decide_eq_true hDd
    exact lv_bipush hx hb hd h2 (go h hDy hL hlen hLo (okc (r32_i h3) hSo))
  case sipush n =>
    simp only [chkI, Bool.and_eq_true, decide_eq_true_eq] at hI
    obtain ⟨h1, h2, h3⟩ := hI
    cases Nat.eq_of_beq_eq_true h1
    have hd := of_decide_eq_true hDd
    exact lv_sipush hx hb hd h2 (go h hDy hL hlen hLo (okc (r32_i h3) hSo))
  case lconst n =>
    simp only [chkI, Bool.and_eq_true, decide_eq_true_eq] at hI
    obtain ⟨h1, h2⟩ := hI
    cases Nat.eq_of_beq_eq_true h1
    have hd := of_decide_eq_true hDd
    subst h2
    refine lv_lconst hx hb hd (v := Int64.ofInt ((n : Nat) : Int)) (by rfl) (go h hDy hL hlen hLo (okc ?_ hSo))
    show i64 ((n : Nat) : Int)
    exact ⟨by have := n.isLt; omega, by have := n.isLt; omega⟩
  case ldc idx =>
    simp only [chkI, Bool.and_eq_true] at hI
    obtain ⟨h1, h2⟩ := hI
    cases Nat.eq_of_beq_eq_true h1
    have hd := of_decide_eq_true hDd
    replace h := sZ_i h
    rcases h with ⟨rfl, h⟩ | ⟨hne, h⟩
    · try dsimp only at h2
      cases hc : cls_[ts.headD 0]? with
      | none => rw [hc] at h2; cases h2
      | some q =>
        obtain ⟨o, i, kd, v, pos⟩ := q
        rw [hc] at h2
        simp only [Bool.and_eq_true, decide_eq_true_eq] at h2
        obtain ⟨e1, e2, e3, e4⟩ := h2
        cases Nat.eq_of_beq_eq_true e1
        cases Nat.eq_of_beq_eq_true e2
        cases Nat.eq_of_beq_eq_true e3
        subst e4
        have h5 := cls_at hc
        simp only [xcok, Bool.and_eq_true, decide_eq_true_eq] at h5
        exact lv_ldc hx hb hown (hts _ (tt_mem h5.2.2 rfl)) hd (go h hDy hL hlen hLo (okc ⟨h5.1, h5.2.1⟩ hSo))
    · obtain ⟨qv, hs1, hs2, hs3, hs4⟩ := hst.2.1
      cases a1 with
      | zero => exact absurd rfl hne
      | succ a1 =>
        simp only [Bool.and_eq_true] at h2
        have e1 := Nat.eq_of_beq_eq_true h2.1
        have e2 := Nat.eq_of_beq_eq_true h2.2
        subst e2
        rw [e1] at hown
        exact va_ldcS hx hb hown hs2 hd (go h hDy hL hlen hLo (okc trivial hSo))
  case ldc_w idx =>
    simp only [chkI, Bool.and_eq_true] at hI
    obtain ⟨h1, h2⟩ := hI
    cases Nat.eq_of_beq_eq_true h1
    have hd := of_decide_eq_true hDd
    replace h := sZ_i h
    rcases h with ⟨rfl, h⟩ | ⟨hne, h⟩
    · try dsimp only at h2
      cases hc : cls_[ts.headD 0]? with
      | none => rw [hc] at h2; cases h2
      | some q =>
        obtain ⟨o, i, kd, v, pos⟩ := q
        rw [hc] at h2
        simp only [Bool.and_eq_true, decide_eq_true_eq] at h2
        obtain ⟨e1, e2, e3, e4⟩ := h2
        cases Nat.eq_of_beq_eq_true e1
        cases Nat.eq_of_beq_eq_true e2
        cases Nat.eq_of_beq_eq_true e3
        subst e4
        have h5 := cls_at hc
        simp only [xcok, Bool.and_eq_true, decide_eq_true_eq] at h5
        exact lv_ldcw hx hb hown (hts _ (tt_mem h5.2.2 rfl)) hd (go h hDy hL hlen hLo (okc ⟨h5.1, h5.2.1⟩ hSo))
    · obtain ⟨qv, hs1, hs2, hs3, hs4⟩ := hst.2.1
      cases a1 with
      | zero => exact absurd rfl hne
      | succ a1 =>
        simp only [Bool.and_eq_true] at h2
        have e1 := Nat.eq_of_beq_eq_true h2.1
        have e2 := Nat.eq_of_beq_eq_true h2.2
        subst e2
        rw [e1] at hown
        exact x_ldcwS hx hb hown hs3 hd (go h hDy hL hlen hLo (okc trivial hSo))
  case ldc2_w idx =>
    simp only [chkI, Bool.and_eq_true] at hI
    obtain ⟨h1, h2⟩ := hI
    cases Nat.eq_of_beq_eq_true h1
    have hd := of_decide_eq_true hDd
    cases hc : cls_[ts.headD 0]? with
    | none => rw [hc] at h2; cases h2
    | some q =>
      obtain ⟨o, i, kd, v, pos⟩ := q
      rw [hc] at h2
      simp only [Bool.and_eq_true, decide_eq_true_eq] at h2
      obtain ⟨e1, e2, e3, e4⟩ := h2
      cases Nat.eq_of_beq_eq_true e1
      cases Nat.eq_of_beq_eq_true e2
      subst e4
      have h5 := cls_at hc
      replace h := sZ_i h
      rcases h with ⟨rfl, h⟩ | ⟨hne, h⟩
      · cases Nat.eq_of_beq_eq_true e3
        simp only [xcok, Bool.and_eq_true, decide_eq_true_eq] at h5
        exact lv_ldc2 hx hb hown (hts _ (tt_mem h5.2.2 rfl)) hd (go h hDy hL hlen hLo (okc ⟨h5.1, h5.2.1⟩ hSo))
      · cases a1 with
        | zero => exact absurd rfl hne
        | succ a1 =>
          cases Nat.eq_of_beq_eq_true e3
          simp only [xcok, Bool.and_eq_true, decide_eq_true_eq] at h5
          exact lv_ldc2d hx hb hown (hts _ (tt_mem h5.2.2 rfl)) hd (go h hDy hL hlen hLo (okc ⟨h5.1, h5.2.1⟩ hSo))
  case iload_n n =>
    simp only [chkI, Bool.and_eq_true, decide_eq_true_eq] at hI
    obtain ⟨h1, h2⟩ := hI
    cases Nat.eq_of_beq_eq_true h1
    have hd := of_decide_eq_true hDd
    subst h2
    replace h := sI_i h
    obtain ⟨n0, x, T, e1, h⟩ := h
    obtain ⟨e1, -⟩ := List.cons.inj e1
    have hat := getD_at e1 (by simp)
    have hv := okV_mem hLo hat
    exact lv_iload_n hx hb hd rfl (hL.2.2 _ _ hat (by simp)) (go h hDy hL hlen hLo (okc (v := xI x) hv hSo))
  case iload n =>
    simp only [chkI, Bool.and_eq_true, decide_eq_true_eq] at hI
    obtain ⟨h1, h2⟩ := hI
    cases Nat.eq_of_beq_eq_true h1
    have hd := of_decide_eq_true hDd
    cases Nat.eq_of_beq_eq_true h2
    replace h := sI_i h
    obtain ⟨n0, x, T, e1, h⟩ := h
    obtain ⟨e1, -⟩ := List.cons.inj e1
    have hat := getD_at e1 (by simp)
    have hv := okV_mem hLo hat
    exact lv_iload hx hb hd (hL.2.2 _ _ hat (by simp)) (go h hDy hL hlen hLo (okc (v := xI x) hv hSo))
  case lload_n n =>
    simp only [chkI, Bool.and_eq_true, decide_eq_true_eq] at hI
    obtain ⟨h1, h2⟩ := hI
    cases Nat.eq_of_beq_eq_true h1
    have hd := of_decide_eq_true hDd
    subst h2
    replace h := sL_i h
    obtain ⟨n0, x, T, e1, h⟩ := h
    obtain ⟨e1, -⟩ := List.cons.inj e1
    have hat := getD_at e1 (by simp)
    have hv := okV_mem hLo hat
    exact lv_lload_n hx hb hd rfl (hL.2.2 _ _ hat (by simp)) (go h hDy hL hlen hLo (okc (v := xL x) hv hSo))
  case lload n =>
    simp only [chkI, Bool.and_eq_true, decide_eq_true_eq] at hI
    obtain ⟨h1, h2⟩ := hI
    cases Nat.eq_of_beq_eq_true h1
    have hd := of_decide_eq_true hDd
    cases Nat.eq_of_beq_eq_true h2
    replace h := sL_i h
    obtain ⟨n0, x, T, e1, h⟩ := h
    obtain ⟨e1, -⟩ := List.cons.inj e1
    have hat := getD_at e1 (by simp)
    have hv := okV_mem hLo hat
    exact lv_lload hx hb hd (hL.2.2 _ _ hat (by simp)) (go h hDy hL hlen hLo (okc (v := xL x) hv hSo))
  case aload_n n =>
    simp only [chkI, Bool.and_eq_true, decide_eq_true_eq] at hI
    obtain ⟨h1, h2⟩ := hI
    cases Nat.eq_of_beq_eq_true h1
    have hd := of_decide_eq_true hDd
    subst h2
    replace h := sB_i h
    obtain ⟨hr, h⟩ := h
    obtain ⟨y, hy⟩ := isR_mk (G := G) hr
    have h9 : (L.getD _ xU).1 ≠ 9 := isR_9 hr
    have hat := getD_at rfl h9
    have hl := hL.2.2 _ _ hat h9
    rw [hy] at hl
    refine lv_aload_n hx hb hd rfl hl ?_
    have hg := go h hDy hL hlen hLo (okc (okV_mem hLo hat) hSo)
    rw [List.map_cons, hy] at hg
    exact hg
  case aload n =>
    simp only [chkI, Bool.and_eq_true, decide_eq_true_eq] at hI
    obtain ⟨h1, h2⟩ := hI
    cases Nat.eq_of_beq_eq_true h1
    have hd := of_decide_eq_true hDd
    cases Nat.eq_of_beq_eq_true h2
    replace h := sB_i h
    obtain ⟨hr, h⟩ := h
    obtain ⟨y, hy⟩ := isR_mk (G := G) hr
    have h9 : (L.getD _ xU).1 ≠ 9 := isR_9 hr
    have hat := getD_at rfl h9
    have hl := hL.2.2 _ _ hat h9
    rw [hy] at hl
    refine lv_aload hx hb hd hl ?_
    have hg := go h hDy hL hlen hLo (okc (okV_mem hLo hat) hSo)
    rw [List.map_cons, hy] at hg
    exact hg
  case istore_n n =>
    simp only [chkI, Bool.and_eq_true, decide_eq_true_eq] at hI
    obtain ⟨h1, rfl, h3⟩ := hI
    cases Nat.eq_of_beq_eq_true h1
    have hd := of_decide_eq_true hDd
    replace h := sI_i h
    obtain ⟨n0, x, T, rfl, h⟩ := h
    have hT := okt hSo
    obtain ⟨hv, hT⟩ := hT
    have hlt := Nat.le_of_ble_eq_true h3
    refine lv_istore_n hx hb hd rfl (LR_has hL) (by rw [hlen]; exact hlt) rfl (fun ls' hl' => ?_)
    exact go h hDy (LR_st1 (v := xI x) hl') (by rw [st1_len]; exact hlen) (okV_st1 hLo hv) hT
  case istore n =>
    simp only [chkI, Bool.and_eq_true, decide_eq_true_eq] at hI
    obtain ⟨h1, rfl, h3⟩ := hI
    cases Nat.eq_of_beq_eq_true h1
    have hd := of_decide_eq_true hDd
    replace h := sI_i h
    obtain ⟨n0, x, T, rfl, h⟩ := h
    have hT := okt hSo
    obtain ⟨hv, hT⟩ := hT
    have hlt := Nat.le_of_ble_eq_true h3
    refine lv_istore hx hb hd (LR_has hL) (by rw [hlen]; exact hlt) rfl (fun ls' hl' => ?_)
    exact go h hDy (LR_st1 (v := xI x) hl') (by rw [st1_len]; exact hlen) (okV_st1 hLo hv) hT
  case lstore_n n =>
    simp only [chkI, Bool.and_eq_true, decide_eq_true_eq] at hI
    obtain ⟨h1, rfl, h3⟩ := hI
    cases Nat.eq_of_beq_eq_true h1
    have hd := of_decide_eq_true hDd
    replace h := sL_i h
    obtain ⟨n0, x, T, rfl, h⟩ := h
    have hT := okt hSo
    obtain ⟨hv, hT⟩ := hT
    have hlt := Nat.le_of_ble_eq_true h3
    refine lv_lstore_n hx hb hd rfl (LR_has hL) (by rw [hlen]; exact hlt) rfl (fun ls' hl' => ?_)
    exact go h hDy (LR_st2 (v := xL x) hl') (by rw [st2_len]; exact hlen) (okV_st2 hLo hv) hT
  case lstore n =>
    simp only [chkI, Bool.and_eq_true, decide_eq_true_eq] at hI
    obtain ⟨h1, rfl, h3⟩ := hI
    cases Nat.eq_of_beq_eq_true h1
    have hd := of_decide_eq_true hDd
    replace h := sL_i h
    obtain ⟨n0, x, T, rfl, h⟩ := h
    have hT := okt hSo
    obtain ⟨hv, hT⟩ := hT
    have hlt := Nat.le_of_ble_eq_true h3
    refine lv_lstore hx hb hd (LR_has hL) (by rw [hlen]; exact hlt) rfl (fun ls' hl' => ?_)
    exact go h hDy (LR_st2 (v := xL x) hl') (by rw [st2_len]; exact hlen) (okV_st2 hLo hv) hT
  case astore_n n =>
    simp only [chkI, Bool.and_eq_true, decide_eq_true_eq] at hI
    obtain ⟨h1, rfl, h3⟩ := hI
    cases Nat.eq_of_beq_eq_true h1
    have hd := of_decide_eq_true hDd
    replace h := sV_i h
    obtain ⟨v, T, rfl, h⟩ := h
    replace h := sB_i h
    obtain ⟨hr, h⟩ := h
    have hT := okt hSo
    obtain ⟨hv, hT⟩ := hT
    obtain ⟨y, hy⟩ := isR_mk (G := G) hr
    have hlt := Nat.le_of_ble_eq_true h3
    rw [List.map_cons, hy]
    refine lv_astore_n hx hb hd rfl (LR_has hL) (by rw [hlen]; exact hlt) rfl (fun ls' hl' => ?_)
    rw [← hy] at hl'
    exact go h hDy (LR_st1 (v := v) hl') (by rw [st1_len]; exact hlen) (okV_st1 hLo hv) hT
  case astore n =>
    simp only [chkI, Bool.and_eq_true, decide_eq_true_eq] at hI
    obtain ⟨h1, rfl, h3⟩ := hI
    cases Nat.eq_of_beq_eq_true h1
    have hd := of_decide_eq_true hDd
    replace h := sV_i h
    obtain ⟨v, T, rfl, h⟩ := h
    replace h := sB_i h
    obtain ⟨hr, h⟩ := h
    have hT := okt hSo
    obtain ⟨hv, hT⟩ := hT
    obtain ⟨y, hy⟩ := isR_mk (G := G) hr
    have hlt := Nat.le_of_ble_eq_true h3
    rw [List.map_cons, hy]
    refine lv_astore hx hb hd (LR_has hL) (by rw [hlen]; exact hlt) rfl (fun ls' hl' => ?_)
    rw [← hy] at hl'
    exact go h hDy (LR_st1 (v := v) hl') (by rw [st1_len]; exact hlen) (okV_st1 hLo hv) hT
  case iinc n v =>
    simp only [chkI, Bool.and_eq_true, decide_eq_true_eq] at hI
    obtain ⟨h1, h2, rfl⟩ := hI
    cases Nat.eq_of_beq_eq_true h1
    cases Nat.eq_of_beq_eq_true h2
    have hd := of_decide_eq_true hDd
    replace h := sI_i h
    obtain ⟨n0, x, T, e1, h⟩ := h
    obtain ⟨e1, -⟩ := List.cons.inj e1
    have hat := getD_at e1 (by simp)
    obtain ⟨j, hj⟩ := List.mem_iff_getElem?.mp (lvl_mem (G := G) hat (by simp))
    refine lv_iinc hx hb hd (LR_has hL) hj (v := Int32.ofInt (z32 (x + v))) (by rw [o32, Int32.ofInt_add]) (List.getElem?_eq_some_iff.mp hat).1 rfl (fun ls' hl' => ?_)
    exact go h hDy (LR_st1 (v := xI (z32 (x + v))) hl') (by rw [st1_len]; exact hlen) (okV_st1 hLo (i32_z _)) hSo
  case iadd =>
    cases Nat.eq_of_beq_eq_true hI
    have hd := of_decide_eq_true hDd
    replace h := sI_i h
    obtain ⟨n1, y, T, rfl, h⟩ := h
    replace h := sI_i h
    obtain ⟨n2, x, T, rfl, h⟩ := h
    have hT := okt hSo
    obtain ⟨hy, hT⟩ := hT
    replace hT := okt hT
    obtain ⟨hx1, hT⟩ := hT
    have hy : i32 y := hy
    have hx1 : i32 x := hx1
    refine lv_iadd hx hb hd ?_
    have hg := go h hDy hL hlen hLo (okc (i32_z _) hT)
    rw [List.map_cons, show mkV G (xI (z32 (x + y))) = .int (Int32.ofInt x + Int32.ofInt y) from congrArg Value.int (by rw [o32, Int32.ofInt_add])] at hg
    exact hg
  case isub =>
    cases Nat.eq_of_beq_eq_true hI
    have hd := of_decide_eq_true hDd
    replace h := sI_i h
    obtain ⟨n1, y, T, rfl, h⟩ := h
    replace h := sI_i h
    obtain ⟨n2, x, T, rfl, h⟩ := h
    have hT := okt hSo
    obtain ⟨hy, hT⟩ := hT
    replace hT := okt hT
    obtain ⟨hx1, hT⟩ := hT
    have hy : i32 y := hy
    have hx1 : i32 x := hx1
    refine lv_isub hx hb hd ?_
    have hg := go h hDy hL hlen hLo (okc (i32_z _) hT)
    rw [List.map_cons, show mkV G (xI (z32 (x - y))) = .int (Int32.ofInt x - Int32.ofInt y) from congrArg Value.int (by rw [o32, Int32.ofInt_sub])] at hg
    exact hg
  case imul =>
    cases Nat.eq_of_beq_eq_true hI
    have hd := of_decide_eq_true hDd
    replace h := sI_i h
    obtain ⟨n1, y, T, rfl, h⟩ := h
    replace h := sI_i h
    obtain ⟨n2, x, T, rfl, h⟩ := h
    have hT := okt hSo
    obtain ⟨hy, hT⟩ := hT
    replace hT := okt hT
    obtain ⟨hx1, hT⟩ := hT
    have hy : i32 y := hy
    have hx1 : i32 x := hx1
    refine lv_imul hx hb hd ?_
    have hg := go h hDy hL hlen hLo (okc (i32_z _) hT)
    rw [List.map_cons, show mkV G (xI (z32 (x * y))) = .int (Int32.ofInt x * Int32.ofInt y) from congrArg Value.int (by rw [o32, Int32.ofInt_mul])] at hg
    exact hg
  case iand =>
    cases Nat.eq_of_beq_eq_true hI
    have hd := of_decide_eq_true hDd
    replace h := sI_i h
    obtain ⟨n1, y, T, rfl, h⟩ := h
    replace h := sI_i h
    obtain ⟨n2, x, T, rfl, h⟩ := h
    have hT := okt hSo
    obtain ⟨hy, hT⟩ := hT
    replace hT := okt hT
    obtain ⟨hx1, hT⟩ := hT
    have hy : i32 y := hy
    have hx1 : i32 x := hx1
    refine lv_iand hx hb hd ?_
    have hg := go h hDy hL hlen hLo (okc (i32_t _) hT)
    rw [List.map_cons, show mkV G (xI (iand x y)) = .int (Int32.ofInt x &&& Int32.ofInt y) from congrArg Value.int (Int32.ofInt_toInt _)] at hg
    exact hg
  case ior =>
    cases Nat.eq_of_beq_eq_true hI
    have hd := of_decide_eq_true hDd
    replace h := sI_i h
    obtain ⟨n1, y, T, rfl, h⟩ := h
    replace h := sI_i h
    obtain ⟨n2, x, T, rfl, h⟩ := h
    have hT := okt hSo
    obtain ⟨hy, hT⟩ := hT
    replace hT := okt hT
    obtain ⟨hx1, hT⟩ := hT
    have hy : i32 y := hy
    have hx1 : i32 x := hx1
    refine lv_ior hx hb hd ?_
    have hg := go h hDy hL hlen hLo (okc (i32_t _) hT)
    rw [List.map_cons, show mkV G (xI (ior x y)) = .int (Int32.ofInt x ||| Int32.ofInt y) from congrArg Value.int (Int32.ofInt_toInt _)] at hg
    exact hg
  case ishl =>
    cases Nat.eq_of_beq_eq_true hI
    have hd := of_decide_eq_true hDd
    replace h := sI_i h
    obtain ⟨n1, y, T, rfl, h⟩ := h
    replace h := sI_i h
    obtain ⟨n2, x, T, rfl, h⟩ := h
    have hT := okt hSo
    obtain ⟨hy, hT⟩ := hT
    replace hT := okt hT
    obtain ⟨hx1, hT⟩ := hT
    have hy : i32 y := hy
    have hx1 : i32 x := hx1
    refine lv_ishl hx hb hd ?_
    have hg := go h hDy hL hlen hLo (okc (i32_t _) hT)
    rw [List.map_cons, show mkV G (xI (ishl x y)) = .int (Int32.ofInt x <<< (Int32.ofInt y &&& 31)) from congrArg Value.int (Int32.ofInt_toInt _)] at hg
    exact hg
  case ishr =>
    cases Nat.eq_of_beq_eq_true hI
    have hd := of_decide_eq_true hDd
    replace h := sI_i h
    obtain ⟨n1, y, T, rfl, h⟩ := h
    replace h := sI_i h
    obtain ⟨n2, x, T, rfl, h⟩ := h
    have hT := okt hSo
    obtain ⟨hy, hT⟩ := hT
    replace hT := okt hT
    obtain ⟨hx1, hT⟩ := hT
    have hy : i32 y := hy
    have hx1 : i32 x := hx1
    refine lv_ishr hx hb hd ?_
    have hg := go h hDy hL hlen hLo (okc (i32_t _) hT)
    rw [List.map_cons, show mkV G (xI (ishr x y)) = .int (Int32.ofInt x >>> (Int32.ofInt y &&& 31)) from congrArg Value.int (Int32.ofInt_toInt _)] at hg
    exact hg
  case idiv =>
    cases Nat.eq_of_beq_eq_true hI
    have hd := of_decide_eq_true hDd
    replace h := sI_i h
    obtain ⟨n1, y, T, rfl, h⟩ := h
    replace h := sI_i h
    obtain ⟨n2, x, T, rfl, h⟩ := h
    have hT := okt hSo
    obtain ⟨hy, hT⟩ := hT
    replace hT := okt hT
    obtain ⟨hx1, hT⟩ := hT
    have hy : i32 y := hy
    have hx1 : i32 x := hx1
    obtain ⟨hne, h⟩ := h
    refine lv_idiv hx hb hd (fun q => hne ((e32 hy ⟨by decide, by decide⟩).mp q)) ?_
    have hg := go h hDy hL hlen hLo (okc (i32_t _) hT)
    rw [List.map_cons, show mkV G (xI (idiv x y)) = .int (Int32.ofInt x / Int32.ofInt y) from congrArg Value.int (Int32.ofInt_toInt _)] at hg
    exact hg
  case irem =>
    cases Nat.eq_of_beq_eq_true hI
    have hd := of_decide_eq_true hDd
    replace h := sI_i h
    obtain ⟨n1, y, T, rfl, h⟩ := h
    replace h := sI_i h
    obtain ⟨n2, x, T, rfl, h⟩ := h
    have hT := okt hSo
    obtain ⟨hy, hT⟩ := hT
    replace hT := okt hT
    obtain ⟨hx1, hT⟩ := hT
    have hy : i32 y := hy
    have hx1 : i32 x := hx1
    obtain ⟨hne, h⟩ := h
    refine lv_irem hx hb hd (fun q => hne ((e32 hy ⟨by decide, by decide⟩).mp q)) ?_
    have hg := go h hDy hL hlen hLo (okc (i32_t _) hT)
    rw [List.map_cons, show mkV G (xI (irem x y)) = .int (Int32.ofInt x - Int32.ofInt x / Int32.ofInt y * Int32.ofInt y) from congrArg Value.int (Int32.ofInt_toInt _)] at hg
    exact hg
  case ladd =>
    cases Nat.eq_of_beq_eq_true hI
    have hd := of_decide_eq_true hDd
    replace h := sL_i h
    obtain ⟨n1, y, T, rfl, h⟩ := h
    replace h := sL_i h
    obtain ⟨n2, x, T, rfl, h⟩ := h
    have hT := okt hSo
    obtain ⟨hy, hT⟩ := hT
    replace hT := okt hT
    obtain ⟨hx1, hT⟩ := hT
    have hy : i64 y := hy
    have hx1 : i64 x := hx1
    refine lv_ladd hx hb hd ?_
    have hg := go h hDy hL hlen hLo (okc (i64_z _) hT)
    rw [List.map_cons, show mkV G (xL (z64 (x + y))) = .long (Int64.ofInt x + Int64.ofInt y) from congrArg Value.long (by rw [o64, Int64.ofInt_add])] at hg
    exact hg
  case lsub =>
    cases Nat.eq_of_beq_eq_true hI
    have hd := of_decide_eq_true hDd
    replace h := sL_i h
    obtain ⟨n1, y, T, rfl, h⟩ := h
    replace h := sL_i h
    obtain ⟨n2, x, T, rfl, h⟩ := h
    have hT := okt hSo
    obtain ⟨hy, hT⟩ := hT
    replace hT := okt hT
    obtain ⟨hx1, hT⟩ := hT
    have hy : i64 y := hy
    have hx1 : i64 x := hx1
    refine lv_lsub hx hb hd ?_
    have hg := go h hDy hL hlen hLo (okc (i64_z _) hT)
    rw [List.map_cons, show mkV G (xL (z64 (x - y))) = .long (Int64.ofInt x - Int64.ofInt y) from congrArg Value.long (by rw [o64, Int64.ofInt_sub])] at hg
    exact hg
  case lmul =>
    cases Nat.eq_of_beq_eq_true hI
    have hd := of_decide_eq_true hDd
    replace h := sL_i h
    obtain ⟨n1, y, T, rfl, h⟩ := h
    replace h := sL_i h
    obtain ⟨n2, x, T, rfl, h⟩ := h
    have hT := okt hSo
    obtain ⟨hy, hT⟩ := hT
    replace hT := okt hT
    obtain ⟨hx1, hT⟩ := hT
    have hy : i64 y := hy
    have hx1 : i64 x := hx1
    refine lv_lmul hx hb hd ?_
    have hg := go h hDy hL hlen hLo (okc (i64_z _) hT)
    rw [List.map_cons, show mkV G (xL (z64 (x * y))) = .long (Int64.ofInt x * Int64.ofInt y) from congrArg Value.long (by rw [o64, Int64.ofInt_mul])] at hg
    exact hg
  case land =>
    cases Nat.eq_of_beq_eq_true hI
    have hd := of_decide_eq_true hDd
    replace h := sL_i h
    obtain ⟨n1, y, T, rfl, h⟩ := h
    replace h := sL_i h
    obtain ⟨n2, x, T, rfl, h⟩ := h
    have hT := okt hSo
    obtain ⟨hy, hT⟩ := hT
    replace hT := okt hT
    obtain ⟨hx1, hT⟩ := hT
    have hy : i64 y := hy
    have hx1 : i64 x := hx1
    refine lv_land hx hb hd ?_
    have hg := go h hDy hL hlen hLo (okc (i64_t _) hT)
    rw [List.map_cons, show mkV G (xL (land x y)) = .long (Int64.ofInt x &&& Int64.ofInt y) from congrArg Value.long (Int64.ofInt_toInt _)] at hg
    exact hg
  case lor =>
    cases Nat.eq_of_beq_eq_true hI
    have hd := of_decide_eq_true hDd
    replace h := sL_i h
    obtain ⟨n1, y, T, rfl, h⟩ := h
    replace h := sL_i h
    obtain ⟨n2, x, T, rfl, h⟩ := h
    have hT := okt hSo
    obtain ⟨hy, hT⟩ := hT
    replace hT := okt hT
    obtain ⟨hx1, hT⟩ := hT
    have hy : i64 y := hy
    have hx1 : i64 x := hx1
    refine lv_lor hx hb hd ?_
    have hg := go h hDy hL hlen hLo (okc (i64_t _) hT)
    rw [List.map_cons, show mkV G (xL (lor x y)) = .long (Int64.ofInt x ||| Int64.ofInt y) from congrArg Value.long (Int64.ofInt_toInt _)] at hg
    exact hg
  case lxor =>
    cases Nat.eq_of_beq_eq_true hI
    have hd := of_decide_eq_true hDd
    replace h := sL_i h
    obtain ⟨n1, y, T, rfl, h⟩ := h
    replace h := sL_i h
    obtain ⟨n2, x, T, rfl, h⟩ := h
    have hT := okt hSo
    obtain ⟨hy, hT⟩ := hT
    replace hT := okt hT
    obtain ⟨hx1, hT⟩ := hT
    have hy : i64 y := hy
    have hx1 : i64 x := hx1
    refine lv_lxor hx hb hd ?_
    have hg := go h hDy hL hlen hLo (okc (i64_t _) hT)
    rw [List.map_cons, show mkV G (xL (lxor x y)) = .long (Int64.ofInt x ^^^ Int64.ofInt y) from congrArg Value.long (Int64.ofInt_toInt _)] at hg
    exact hg
  case ldiv =>
    cases Nat.eq_of_beq_eq_true hI
    have hd := of_decide_eq_true hDd
    replace h := sL_i h
    obtain ⟨n1, y, T, rfl, h⟩ := h
    replace h := sL_i h
    obtain ⟨n2, x, T, rfl, h⟩ := h
    have hT := okt hSo
    obtain ⟨hy, hT⟩ := hT
    replace hT := okt hT
    obtain ⟨hx1, hT⟩ := hT
    have hy : i64 y := hy
    have hx1 : i64 x := hx1
    obtain ⟨hne, h⟩ := h
    refine lv_ldiv hx hb hd (fun q => hne ((e64 hy ⟨by decide, by decide⟩).mp q)) ?_
    have hg := go h hDy hL hlen hLo (okc (i64_t _) hT)
    rw [List.map_cons, show mkV G (xL (ldiv x y)) = .long (Int64.ofInt x / Int64.ofInt y) from congrArg Value.long (Int64.ofInt_toInt _)] at hg
    exact hg
  case lrem =>
    cases Nat.eq_of_beq_eq_true hI
    have hd := of_decide_eq_true hDd
    replace h := sL_i h
    obtain ⟨n1, y, T, rfl, h⟩ := h
    replace h := sL_i h
    obtain ⟨n2, x, T, rfl, h⟩ := h
    have hT := okt hSo
    obtain ⟨hy, hT⟩ := hT
    replace hT := okt hT
    obtain ⟨hx1, hT⟩ := hT
    have hy : i64 y := hy
    have hx1 : i64 x := hx1
    obtain ⟨hne, h⟩ := h
    refine lv_lrem hx hb hd (fun q => hne ((e64 hy ⟨by decide, by decide⟩).mp q)) ?_
    have hg := go h hDy hL hlen hLo (okc (i64_t _) hT)
    rw [List.map_cons, show mkV G (xL (lrem x y)) = .long (Int64.ofInt x - Int64.ofInt x / Int64.ofInt y * Int64.ofInt y) from congrArg Value.long (Int64.ofInt_toInt _)] at hg
    exact hg
  case lshl =>
    cases Nat.eq_of_beq_eq_true hI
    have hd := of_decide_eq_true hDd
    replace h := sI_i h
    obtain ⟨n1, y, T, rfl, h⟩ := h
    replace h := sL_i h
    obtain ⟨n2, x, T, rfl, h⟩ := h
    have hT := okt hSo
    obtain ⟨hy, hT⟩ := hT
    replace hT := okt hT
    obtain ⟨hx1, hT⟩ := hT
    have hy : i32 y := hy
    have hx1 : i64 x := hx1
    refine lv_lshl hx hb hd rfl ?_
    have hg := go h hDy hL hlen hLo (okc (i64_t _) hT)
    rw [List.map_cons, show mkV G (xL (lshl x y)) = .long (Int64.ofInt x <<< ((Int32.ofInt y).toInt64 &&& 63)) from congrArg Value.long (Int64.ofInt_toInt _)] at hg
    exact hg
  case lshr =>
    cases Nat.eq_of_beq_eq_true hI
    have hd := of_decide_eq_true hDd
    replace h := sI_i h
    obtain ⟨n1, y, T, rfl, h⟩ := h
    replace h := sL_i h
    obtain ⟨n2, x, T, rfl, h⟩ := h
    have hT := okt hSo
    obtain ⟨hy, hT⟩ := hT
    replace hT := okt hT
    obtain ⟨hx1, hT⟩ := hT
    have hy : i32 y := hy
    have hx1 : i64 x := hx1
    refine lv_lshr hx hb hd rfl ?_
    have hg := go h hDy hL hlen hLo (okc (i64_t _) hT)
    rw [List.map_cons, show mkV G (xL (lshr x y)) = .long (Int64.ofInt x >>> ((Int32.ofInt y).toInt64 &&& 63)) from congrArg Value.long (Int64.ofInt_toInt _)] at hg
    exact hg
  case lushr =>
    cases Nat.eq_of_beq_eq_true hI
    have hd := of_decide_eq_true hDd
    replace h := sI_i h
    obtain ⟨n1, y, T, rfl, h⟩ := h
    replace h := sL_i h
    obtain ⟨n2, x, T, rfl, h⟩ := h
    have hT := okt hSo
    obtain ⟨hy, hT⟩ := hT
    replace hT := okt hT
    obtain ⟨hx1, hT⟩ := hT
    have hy : i32 y := hy
    have hx1 : i64 x := hx1
    refine lv_lushr hx hb hd rfl ?_
    have hg := go h hDy hL hlen hLo (okc (i64_t _) hT)
    rw [List.map_cons, show mkV G (xL (lushr x y)) = .long (((Int64.ofInt x).toUInt64 >>> ((Int32.ofInt y).toInt64.toUInt64 &&& Int64.toUInt64 63)).toInt64) from congrArg Value.long (Int64.ofInt_toInt _)] at hg
    exact hg
  case i2b =>
    cases Nat.eq_of_beq_eq_true hI
    have hd := of_decide_eq_true hDd
    replace h := sI_i h
    obtain ⟨n1, x, T, rfl, h⟩ := h
    have hT := okt hSo
    obtain ⟨hx1, hT⟩ := hT
    have hx1 : i32 x := hx1
    refine lv_i2b hx hb hd rfl ?_
    have hg := go h hDy hL hlen hLo (okc (i32_t _) hT)
    rw [List.map_cons, show mkV G (xI (i2b x)) = .int ((Int32.ofInt x).toInt8.toInt32) from congrArg Value.int (Int32.ofInt_toInt _)] at hg
    exact hg
  case i2l =>
    cases Nat.eq_of_beq_eq_true hI
    have hd := of_decide_eq_true hDd
    replace h := sI_i h
    obtain ⟨n1, x, T, rfl, h⟩ := h
    have hT := okt hSo
    obtain ⟨hx1, hT⟩ := hT
    have hx1 : i32 x := hx1
    refine lv_i2l hx hb hd rfl ?_
    have hg := go h hDy hL hlen hLo (okc (show okV SH (xL x) from i32_64 hx1) hT)
    rw [List.map_cons, show mkV G (xL x) = .long ((Int32.ofInt x).toInt64) from congrArg Value.long (Int64.toInt_inj.mp (by rw [Int32.toInt_toInt64, t32 hx1, t64 (i32_64 hx1)]))] at hg
    exact hg
  case l2i =>
    cases Nat.eq_of_beq_eq_true hI
    have hd := of_decide_eq_true hDd
    replace h := sL_i h
    obtain ⟨n1, x, T, rfl, h⟩ := h
    have hT := okt hSo
    obtain ⟨hx1, hT⟩ := hT
    have hx1 : i64 x := hx1
    refine lv_l2i hx hb hd rfl ?_
    have hg := go h hDy hL hlen hLo (okc (i32_z _) hT)
    rw [List.map_cons, show mkV G (xI (z32 x)) = .int ((Int64.ofInt x).toInt32) from congrArg Value.int (by rw [o32, Int64.toInt32_ofInt])] at hg
    exact hg
  case lneg =>
    cases Nat.eq_of_beq_eq_true hI
    have hd := of_decide_eq_true hDd
    replace h := sL_i h
    obtain ⟨n1, x, T, rfl, h⟩ := h
    have hT := okt hSo
    obtain ⟨hx1, hT⟩ := hT
    have hx1 : i64 x := hx1
    refine lv_lneg hx hb hd ?_
    have hg := go h hDy hL hlen hLo (okc (i64_z _) hT)
    rw [List.map_cons, show mkV G (xL (z64 (- x))) = .long (- Int64.ofInt x) from congrArg Value.long (by rw [o64, Int64.ofInt_neg])] at hg
    exact hg
  case l2d =>
    cases Nat.eq_of_beq_eq_true hI
    have hd := of_decide_eq_true hDd
    replace h := sL_i h
    obtain ⟨n1, x, T, rfl, h⟩ := h
    have hT := okt hSo
    obtain ⟨hx1, hT⟩ := hT
    have hx1 : i64 x := hx1
    refine lv_l2d hx hb hd ?_
    have hg := go h hDy hL hlen hLo (okc (show okV SH (xD (l2d x)) from u64_ok _) hT)
    rw [List.map_cons, show mkV G (xD (l2d x)) = .double (FP.l2d (Int64.ofInt x)) from congrArg Value.double (by unfold l2d; rw [Int.toNat_natCast]; exact UInt64.ofNat_toNat)] at hg
    exact hg
  case ddiv =>
    cases Nat.eq_of_beq_eq_true hI
    have hd := of_decide_eq_true hDd
    replace h := sD_i h
    obtain ⟨n1, y, T, rfl, h⟩ := h
    replace h := sD_i h
    obtain ⟨n2, x, T, rfl, h⟩ := h
    have hT := okt hSo
    obtain ⟨hy, hT⟩ := hT
    replace hT := okt hT
    obtain ⟨hx1, hT⟩ := hT
    obtain ⟨hk, h⟩ := h
    have e1 : UInt64.ofNat (ddiv x y).toNat = FP.ddiv (UInt64.ofNat x.toNat) (UInt64.ofNat y.toNat) := by unfold ddiv; rw [Int.toNat_natCast]; exact UInt64.ofNat_toNat
    unfold dok at hk
    rw [e1] at hk
    refine lv_ddiv hx hb hd hk ?_
    have hg := go h hDy hL hlen hLo (okc (show okV SH (xD (ddiv x y)) from u64_ok _) hT)
    rw [List.map_cons, show mkV G (xD (ddiv x y)) = .double (FP.ddiv (UInt64.ofNat x.toNat) (UInt64.ofNat y.toNat)) from congrArg Value.double e1] at hg
    exact hg
  case dup =>
    cases Nat.eq_of_beq_eq_true hI
    have hd := of_decide_eq_true hDd
    replace h := sV_i h
    obtain ⟨v, T, rfl, h⟩ := h
    replace h := sB_i h
    obtain ⟨hr, h⟩ := h
    have hT := okt hSo
    obtain ⟨hv, hT⟩ := hT
    exact lv_dup hx hb hd (cat1 hr) (go h hDy hL hlen hLo (okc hv (okc hv hT)))
  case pop =>
    cases Nat.eq_of_beq_eq_true hI
    have hd := of_decide_eq_true hDd
    replace h := sV_i h
    obtain ⟨v, T, rfl, h⟩ := h
    replace h := sB_i h
    obtain ⟨hr, h⟩ := h
    have hT := okt hSo
    obtain ⟨hv, hT⟩ := hT
    exact lv_pop hx hb hd (cat1 hr) (go h hDy hL hlen hLo hT)
  case dup2 =>
    cases Nat.eq_of_beq_eq_true hI
    have hd := of_decide_eq_true hDd
    replace h := sV_i h
    obtain ⟨v, T, rfl, h⟩ := h
    replace h := sV_i h
    obtain ⟨w, T, rfl, h⟩ := h
    replace h := sB_i h
    obtain ⟨hr, h⟩ := h
    have hT := okt hSo
    obtain ⟨hv, hT⟩ := hT
    replace hT := okt hT
    obtain ⟨hw, hT⟩ := hT
    rw [Bool.and_eq_true] at hr
    exact lv_dup2_11 hx hb hd (cat1 hr.1) (cat1 hr.2) (go h hDy hL hlen hLo (okc hv (okc hw (okc hv (okc hw hT)))))
  case goto off =>
    simp only [chkI, Bool.and_eq_true, decide_eq_true_eq] at hI
    obtain ⟨h1, h2⟩ := hI
    cases Nat.eq_of_beq_eq_true h1
    have hd := of_decide_eq_true hDd
    exact lv_goto hx hb hd h2 (go h hDy hL hlen hLo hSo)
  case if_icmp o off =>
    simp only [chkI, Bool.and_eq_true, decide_eq_true_eq] at hI
    obtain ⟨h1, h2⟩ := hI
    cases Nat.eq_of_beq_eq_true h1
    have hd := of_decide_eq_true hDd
    replace h := sI_i h
    obtain ⟨n1, y, T, rfl, h⟩ := h
    replace h := sI_i h
    obtain ⟨n2, x, T, rfl, h⟩ := h
    have hT := okt hSo
    obtain ⟨hy, hT⟩ := hT
    replace hT := okt hT
    obtain ⟨hx1, hT⟩ := hT
    have hy : i32 y := hy
    have hx1 : i32 x := hx1
    cases o with
    | eq => exact lv_icmp_eq hx hb hd h2 (fun q => go ((fun q => h.1 ((e32 hx1 hy).mp q)) q) hDy hL hlen hLo hT) (fun q => go ((fun q => h.2 (fun z => q ((e32 hx1 hy).mpr z))) q) hDy hL hlen hLo hT)
    | ne => exact lv_icmp_ne hx hb hd h2 (fun q => go ((fun q => h.1 (fun z => q ((e32 hx1 hy).mpr z))) q) hDy hL hlen hLo hT) (fun q => go ((fun q => h.2 (fun z => z ((e32 hx1 hy).mp q))) q) hDy hL hlen hLo hT)
    | lt => exact lv_icmp_lt hx hb hd h2 (fun q => go ((fun q => h.1 ((l32 hx1 hy).mp q)) q) hDy hL hlen hLo hT) (fun q => go ((fun q => h.2 (fun z => q ((l32 hx1 hy).mpr z))) q) hDy hL hlen hLo hT)
    | ge => exact lv_icmp_ge hx hb hd h2 (fun q => go ((fun q => h.1 ((le32 hy hx1).mp q)) q) hDy hL hlen hLo hT) (fun q => go ((fun q => h.2 (fun z => q ((le32 hy hx1).mpr z))) q) hDy hL hlen hLo hT)
    | gt => exact lv_icmp_gt hx hb hd h2 (fun q => go ((fun q => h.1 ((l32 hy hx1).mp q)) q) hDy hL hlen hLo hT) (fun q => go ((fun q => h.2 (fun z => q ((l32 hy hx1).mpr z))) q) hDy hL hlen hLo hT)
    | le => exact lv_icmp_le hx hb hd h2 (fun q => go ((fun q => h.1 ((le32 hx1 hy).mp q)) q) hDy hL hlen hLo hT) (fun q => go ((fun q => h.2 (fun z => q ((le32 hx1 hy).mpr z))) q) hDy hL hlen hLo hT)
  case ifCond o off =>
    simp only [chkI, Bool.and_eq_true, decide_eq_true_eq] at hI
    obtain ⟨h1, h2⟩ := hI
    cases Nat.eq_of_beq_eq_true h1
    have hd := of_decide_eq_true hDd
    replace h := sI_i h
    obtain ⟨n2, x, T, rfl, h⟩ := h
    have hT := okt hSo
    obtain ⟨hx1, hT⟩ := hT
    have hx1 : i32 x := hx1
    have hz : i32 0 := ⟨by decide, by decide⟩
    cases o with
    | eq => exact lv_if_eq hx hb hd h2 (fun q => go ((fun q => h.1 ((e32 hx1 hz).mp q)) q) hDy hL hlen hLo hT) (fun q => go ((fun q => h.2 (fun z => q ((e32 hx1 hz).mpr z))) q) hDy hL hlen hLo hT)
    | ne => exact lv_if_ne hx hb hd h2 (fun q => go ((fun q => h.1 (fun z => q ((e32 hx1 hz).mpr z))) q) hDy hL hlen hLo hT) (fun q => go ((fun q => h.2 (fun z => z ((e32 hx1 hz).mp q))) q) hDy hL hlen hLo hT)
    | lt => exact lv_if_lt hx hb hd h2 (fun q => go ((fun q => h.1 ((l32 hx1 hz).mp q)) q) hDy hL hlen hLo hT) (fun q => go ((fun q => h.2 (fun z => q ((l32 hx1 hz).mpr z))) q) hDy hL hlen hLo hT)
    | ge => exact lv_if_ge hx hb hd h2 (fun q => go ((fun q => h.1 ((le32 hz hx1).mp q)) q) hDy hL hlen hLo hT) (fun q => go ((fun q => h.2 (fun z => q ((le32 hz hx1).mpr z))) q) hDy hL hlen hLo hT)
    | gt => exact lv_if_gt hx hb hd h2 (fun q => go ((fun q => h.1 ((l32 hz hx1).mp q)) q) hDy hL hlen hLo hT) (fun q => go ((fun q => h.2 (fun z => q ((l32 hz hx1).mpr z))) q) hDy hL hlen hLo hT)
    | le => exact lv_if_le hx hb hd h2 (fun q => go ((fun q => h.1 ((le32 hx1 hz).mp q)) q) hDy hL hlen hLo hT) (fun q => go ((fun q => h.2 (fun z => q ((le32 hx1 hz).mpr z))) q) hDy hL hlen hLo hT)
  case laload =>
    cases Nat.eq_of_beq_eq_true hI
    have hd := of_decide_eq_true hDd
    replace h := sI_i h
    obtain ⟨n1, j, T, rfl, h⟩ := h
    replace h := sA_i h
    obtain ⟨n, a, T, rfl, h⟩ := h
    have hT := okt hSo
    obtain ⟨hj, hT⟩ := hT
    replace hT := okt hT
    obtain ⟨ha, hT⟩ := hT
    have hj : i32 j := hj
    obtain ⟨b, rfl⟩ := nat_of ha.1
    have hsh : SH[b]? = some (4, n) := ha.2
    obtain ⟨hin, h⟩ := h
    obtain ⟨q, rfl, hq⟩ := j_in hin
    refine va_lald hx hb hst.1 hDy.1 b 1 (f := fun q => Int64.ofInt (M b q)) (xW_at hsh) rfl (in32 hin.1 hin.2 hj) hd ?_
    rw [n32' hj]
    exact go h hDy hL hlen hLo (okc (show okV SH (xL (M b q)) from hDy.2.2.2.1 b _ hsh q hq) hT)
  case iaload =>
    cases Nat.eq_of_beq_eq_true hI
    have hd := of_decide_eq_true hDd
    replace h := sI_i h
    obtain ⟨n1, j, T, rfl, h⟩ := h
    have hT := okt hSo
    obtain ⟨hj, hT⟩ := hT
    have hj : i32 j := hj
    replace h := sJ_i h
    rcases h with ⟨n, a, T, rfl, h⟩ | ⟨n, a, T, rfl, h⟩
    · replace hT := okt hT
      obtain ⟨ha, hT⟩ := hT
      obtain ⟨b, rfl⟩ := nat_of ha.1
      have hsh : SH[b]? = some (3, n) := ha.2
      obtain ⟨hin, h⟩ := h
      obtain ⟨q, rfl, hq⟩ := j_in hin
      refine va_iald hx hb hst.1 hDy.1 b 0 (f := fun q => Int32.ofInt (M b q)) (xW_at hsh) rfl (in32 hin.1 hin.2 hj) hd ?_
      rw [n32' hj]
      exact go h hDy hL hlen hLo (okc (show okV SH (xI (M b q)) from hDy.2.2.2.1 b _ hsh q hq) hT)
    · replace hT := okt hT
      obtain ⟨ha, hT⟩ := hT
      obtain ⟨hin, h⟩ := h
      have hsc := hDy.2.2.2.2
      rw [hsc.1, Int.toNat_natCast] at hin
      obtain ⟨q, rfl, hq⟩ := j_in hin
      refine va_sld hx hb hst.2.2.1 hst.2.2.2.1 hst.2.2.2.2.1 hDy.2.2.1 (in32 hin.1 hin.2 hj) hd ?_
      rw [n32' hj]
      rw [hsc.2.2 q hq] at h
      have hg := go h hDy hL hlen hLo (okc (show okV SH (xI ((xs q).toInt)) from i32_t _) hT)
      rw [List.map_cons, show mkV G (xI (xs q).toInt) = .int (xs q) from congrArg Value.int (Int32.ofInt_toInt _)] at hg
      exact hg
  case arraylength =>
    cases Nat.eq_of_beq_eq_true hI
    have hd := of_decide_eq_true hDd
    replace h := sS_i h
    obtain ⟨n, a, T, rfl, h⟩ := h
    have hT := okt hSo
    obtain ⟨ha, hT⟩ := hT
    have hsc := hDy.2.2.2.2
    refine va_slen hx hb hst.2.2.1 hst.2.2.2.1 hst.2.2.2.2.1 hDy.2.2.1 hd ?_
    rw [hsc.1] at h
    have hg := go h hDy hL hlen hLo (okc (v := xI (Ls : Int)) (show i32 (Ls : Int) from ⟨by have := hsc.2.1; omega, by have := hsc.2.1; omega⟩) hT)
    exact hg
  case baload =>
    cases Nat.eq_of_beq_eq_true hI
    have hd := of_decide_eq_true hDd
    replace h := sI_i h
    obtain ⟨n1, j, T, rfl, h⟩ := h
    have hT := okt hSo
    obtain ⟨hj, hT⟩ := hT
    have hj : i32 j := hj
    replace h := sY_i h
    rcases h with ⟨n, a, T, rfl, h⟩ | ⟨n, a, T, rfl, h⟩
    · replace hT := okt hT
      obtain ⟨ha, hT⟩ := hT
      obtain ⟨b, rfl⟩ := nat_of ha.1
      have hsh : SH[b]? = some (5, n) := ha.2
      obtain ⟨hin, h⟩ := h
      obtain ⟨q, rfl, hq⟩ := j_in hin
      refine va_zald hx hb hst.1 hDy.1 b 2 (f := fun q => Int32.ofInt (M b q)) (xW_at hsh) rfl (in32 hin.1 hin.2 hj) hd ?_
      rw [n32' hj]
      exact go h hDy hL hlen hLo (okc (show okV SH (xI (M b q)) from hDy.2.2.2.1 b _ hsh q hq) hT)
    · replace hT := okt hT
      obtain ⟨ha, hT⟩ := hT
      obtain ⟨b, rfl⟩ := nat_of ha.1
      have hsh : SH[b]? = some (12, n) := ha.2
      obtain ⟨hin, h⟩ := h
      obtain ⟨q, rfl, hq⟩ := j_in hin
      refine va_bald hx hb hst.1 hDy.1 b 5 (f := fun q => Int32.ofInt (M b q)) (xW_at hsh) rfl (in32 hin.1 hin.2 hj) hd ?_
      rw [n32' hj]
      exact go h hDy hL hlen hLo (okc (show okV SH (xI (M b q)) from hDy.2.2.2.1 b _ hsh q hq) hT)
  case aaload =>
    cases Nat.eq_of_beq_eq_true hI
    have hd := of_decide_eq_true hDd
    replace h := sI_i h
    obtain ⟨n1, j, T, rfl, h⟩ := h
    have hT := okt hSo
    obtain ⟨hj, hT⟩ := hT
    have hj : i32 j := hj
    replace h := sK_i h
    rcases h with ⟨n, a, T, rfl, h⟩ | ⟨n, a, T, rfl, h⟩
    · replace hT := okt hT
      obtain ⟨ha, hT⟩ := hT
      obtain ⟨b, rfl⟩ := nat_of ha.1
      have hsh : SH[b]? = some (6, n) := ha.2
      obtain ⟨hin, h⟩ := h
      obtain ⟨q, rfl, hq⟩ := j_in hin
      refine va_aldq hx hb hst.1 hDy.1 b 3 (f := fun q => some (G.1 (M b q).toNat)) (xW_at hsh) rfl (in32 hin.1 hin.2 hj) hd ?_
      rw [n32' hj]
      exact go h hDy hL hlen hLo (okc (hDy.2.2.2.1 b _ hsh q hq) hT)
    · replace hT := okt hT
      obtain ⟨ha, hT⟩ := hT
      obtain ⟨b, rfl⟩ := nat_of ha.1
      have hsh : SH[b]? = some (7, n) := ha.2
      obtain ⟨hin, h⟩ := h
      obtain ⟨q, rfl, hq⟩ := j_in hin
      refine x_aldr hx hb hst.1 hDy.1 b 4 (f := fun q => some (G.1 (M b q).toNat)) (xW_at hsh) rfl (in32 hin.1 hin.2 hj) hd ?_
      rw [n32' hj]
      exact go h hDy hL hlen hLo (okc (hDy.2.2.2.1 b _ hsh q hq) hT)
  case iastore =>
    cases Nat.eq_of_beq_eq_true hI
    have hd := of_decide_eq_true hDd
    replace h := sI_i h
    obtain ⟨n0, x, T, rfl, h⟩ := h
    replace h := sI_i h
    obtain ⟨n1, j, T, rfl, h⟩ := h
    replace h := sA_i h
    obtain ⟨n, a, T, rfl, h⟩ := h
    have hT := okt hSo
    obtain ⟨hx1, hT⟩ := hT
    replace hT := okt hT
    obtain ⟨hj, hT⟩ := hT
    replace hT := okt hT
    obtain ⟨ha, hT⟩ := hT
    have hj : i32 j := hj
    obtain ⟨b, rfl⟩ := nat_of ha.1
    have hsh : SH[b]? = some (3, n) := ha.2
    obtain ⟨hin, h⟩ := h
    obtain ⟨q, rfl, hq⟩ := j_in hin
    refine va_iast hx hb hst.1 hDy.1 hDy.2.1 hDy.2.2.1 b 0 (f := fun q => Int32.ofInt (M b q)) (xW_at hsh) rfl (in32 hin.1 hin.2 hj) hd (fun H1 locs1 hP1 hD1 hS1 => ?_)
    rw [n32' hj, xW_up (i := (q : Int)) (v := x) hsh (congrArg (fun f => (Sum.inl (cA 3, n, Sum.inl f) : va_E)) (upd_fun rfl))] at hP1 hD1
    exact go h ⟨hP1, hD1, hS1, okM_up hDy.2.2.2.1 hsh (okC_arr (Or.inl rfl) (hDy.2.2.2.1 b _ hsh) hx1), xScr_up hDy.2.2.2.2⟩ hL hlen hLo hT
  case lastore =>
    cases Nat.eq_of_beq_eq_true hI
    have hd := of_decide_eq_true hDd
    replace h := sL_i h
    obtain ⟨n0, x, T, rfl, h⟩ := h
    replace h := sI_i h
    obtain ⟨n1, j, T, rfl, h⟩ := h
    replace h := sA_i h
    obtain ⟨n, a, T, rfl, h⟩ := h
    have hT := okt hSo
    obtain ⟨hx1, hT⟩ := hT
    replace hT := okt hT
    obtain ⟨hj, hT⟩ := hT
    replace hT := okt hT
    obtain ⟨ha, hT⟩ := hT
    have hj : i32 j := hj
    obtain ⟨b, rfl⟩ := nat_of ha.1
    have hsh : SH[b]? = some (4, n) := ha.2
    obtain ⟨hin, h⟩ := h
    obtain ⟨q, rfl, hq⟩ := j_in hin
    refine va_last hx hb hst.1 hDy.1 hDy.2.1 hDy.2.2.1 b 1 (f := fun q => Int64.ofInt (M b q)) (xW_at hsh) rfl (in32 hin.1 hin.2 hj) hd (fun H1 locs1 hP1 hD1 hS1 => ?_)
    rw [n32' hj, xW_up (i := (q : Int)) (v := x) hsh (congrArg (fun f => (Sum.inl (cA 4, n, Sum.inr (Sum.inl f)) : va_E)) (updL_fun rfl))] at hP1 hD1
    exact go h ⟨hP1, hD1, hS1, okM_up hDy.2.2.2.1 hsh (okC_arrL (hDy.2.2.2.1 b _ hsh) hx1), xScr_up hDy.2.2.2.2⟩ hL hlen hLo hT
  case bastore =>
    cases Nat.eq_of_beq_eq_true hI
    have hd := of_decide_eq_true hDd
    replace h := sI_i h
    obtain ⟨n0, x, T, rfl, h⟩ := h
    replace h := sI_i h
    obtain ⟨n1, j, T, rfl, h⟩ := h
    have hT := okt hSo
    obtain ⟨hx1, hT⟩ := hT
    replace hT := okt hT
    obtain ⟨hj, hT⟩ := hT
    have hj : i32 j := hj
    have hx1 : i32 x := hx1
    replace h := sY_i h
    rcases h with ⟨n, a, T, rfl, h⟩ | ⟨n, a, T, rfl, h⟩
    · replace hT := okt hT
      obtain ⟨ha, hT⟩ := hT
      obtain ⟨b, rfl⟩ := nat_of ha.1
      have hsh : SH[b]? = some (5, n) := ha.2
      obtain ⟨hin, h⟩ := h
      obtain ⟨q, rfl, hq⟩ := j_in hin
      replace h := rb_i h
      obtain ⟨hx2, h⟩ := h
      refine va_zast hx hb hst.1 hDy.1 hDy.2.1 hDy.2.2.1 b 2 (f := fun q => Int32.ofInt (M b q)) (xW_at hsh) rfl (in32 hin.1 hin.2 hj) hd (fun H1 locs1 hP1 hD1 hS1 => ?_)
      rw [n32' hj, nar_z hx2, xW_up (i := (q : Int)) (v := x) hsh (congrArg (fun f => (Sum.inl (cA 5, n, Sum.inl f) : va_E)) (upd_fun rfl))] at hP1 hD1
      exact go h ⟨hP1, hD1, hS1, okM_up hDy.2.2.2.1 hsh (okC_arr (Or.inr (Or.inl rfl)) (hDy.2.2.2.1 b _ hsh) hx1), xScr_up hDy.2.2.2.2⟩ hL hlen hLo hT
    · replace hT := okt hT
      obtain ⟨ha, hT⟩ := hT
      obtain ⟨b, rfl⟩ := nat_of ha.1
      have hsh : SH[b]? = some (12, n) := ha.2
      obtain ⟨hin, h⟩ := h
      obtain ⟨q, rfl, hq⟩ := j_in hin
      refine va_bast hx hb hst.1 hDy.1 hDy.2.1 hDy.2.2.1 b 5 (f := fun q => Int32.ofInt (M b q)) (xW_at hsh) rfl (in32 hin.1 hin.2 hj) hd (fun H1 locs1 hP1 hD1 hS1 => ?_)
      rw [n32' hj, nar_b, xW_up (i := (q : Int)) (v := i2b x) hsh (congrArg (fun f => (Sum.inl (cA 12, n, Sum.inl f) : va_E)) (upd_fun rfl))] at hP1 hD1
      exact go h ⟨hP1, hD1, hS1, okM_up hDy.2.2.2.1 hsh (okC_arr (Or.inr (Or.inr rfl)) (hDy.2.2.2.1 b _ hsh) (i32_t _)), xScr_up hDy.2.2.2.2⟩ hL hlen hLo hT
  case aastore =>
    cases Nat.eq_of_beq_eq_true hI
    have hd := of_decide_eq_true hDd
    replace h := sO_i h
    obtain ⟨x, T, rfl, h⟩ := h
    replace h := sI_i h
    obtain ⟨n1, j, T, rfl, h⟩ := h
    replace h := sA_i h
    obtain ⟨n, a, T, rfl, h⟩ := h
    have hT := okt hSo
    obtain ⟨hx1, hT⟩ := hT
    replace hT := okt hT
    obtain ⟨hj, hT⟩ := hT
    replace hT := okt hT
    obtain ⟨ha, hT⟩ := hT
    have hj : i32 j := hj
    obtain ⟨b, rfl⟩ := nat_of ha.1
    have hsh : SH[b]? = some (6, n) := ha.2
    have hxo : okV SH (xO xTab x) := hx1
    obtain ⟨b2, rfl⟩ := nat_of hxo.1
    have hsh2 : SH[b2]? = some (2, 6) := hxo.2
    obtain ⟨hin, h⟩ := h
    obtain ⟨q, rfl, hq⟩ := j_in hin
    refine va_astq hx hb hst.1 hDy.1 hDy.2.1 hDy.2.2.1 b 3 b2 6 (r := (RX6, TX6, 8)) (f := fun q => some (G.1 (M b q).toNat)) (xW_at hsh) rfl (xW_at hsh2) rfl (in32 hin.1 hin.2 hj) hd (fun H1 locs1 hP1 hD1 hS1 => ?_)
    rw [n32' hj, xW_up (i := (q : Int)) (v := (b2 : Int)) hsh (show xcell G cA (up M b (q : Int) (b2 : Int)) b (6, n) = (Sum.inl (cA 6, n, Sum.inr (Sum.inr (Sum.inr (Sum.inr (va_up (fun q => some (G.1 (M b q).toNat)) q (some (G.1 b2))))))) : va_E) from congrArg (fun f => (Sum.inl (cA 6, n, Sum.inr (Sum.inr (Sum.inr (Sum.inr f)))) : va_E)) (updR_fun rfl))] at hP1 hD1
    exact go h ⟨hP1, hD1, hS1, okM_up hDy.2.2.2.1 hsh (okC_arrT (hDy.2.2.2.1 b _ hsh) hxo), xScr_up hDy.2.2.2.2⟩ hL hlen hLo hT
  case tableswitch df lo hi offs =>
    simp only [chkI, Bool.and_eq_true, decide_eq_true_eq] at hI
    obtain ⟨h1, rfl, h3, h4⟩ := hI
    have hd := of_decide_eq_true hDd
    replace h := sI_i h
    obtain ⟨n2, x, T, rfl, h⟩ := h
    have hT := okt hSo
    obtain ⟨hx1, hT⟩ := hT
    have hx1 : i32 x := hx1
    have ht := t32 hx1
    by_cases hin : 0 ≤ x ∧ x < (ts.length : Int)
    · obtain ⟨q, rfl, hq⟩ := j_in hin
      have hl : offs.toList.length = ts.length := by
        have := congrArg List.length h4
        simpa using this
      have hq2 : q < offs.toList.length := by omega
      obtain ⟨tg, htg⟩ : ∃ tg, ts[q]? = some tg := ⟨_, List.getElem?_eq_getElem hq⟩
      obtain ⟨off, hoff⟩ : ∃ off, offs.toList[q]? = some off := ⟨_, List.getElem?_eq_getElem hq2⟩
      have e := congrArg (fun l : List Int => l[q]?) h4
      simp only [List.getElem?_map, htg, hoff, Option.map_some] at e
      refine lv_tableIn hx hb hd (off := off) (tgt := tg) (by rw [ht]; omega) (by rw [ht]; omega) ?_ (Option.some.inj e) (go (sw_in (i := 0) q tg htg (by simp) h) hDy hL hlen hLo hT)
      rw [ht]
      have : ((q : Int) - 0).toNat = q := by omega
      rw [this, ← Array.getElem?_toList]
      exact hoff
    · refine lv_tableOut hx hb hd (tgt := a1) (by rw [ht]; omega) h1 (go (sw_out (i := 0) ?_ h) hDy hL hlen hLo hT)
      omega
  case lcmp =>
    simp only [chkD, Bool.and_eq_true, decide_eq_true_eq] at hDd
    obtain ⟨hd1, hd2⟩ := hDd
    cases Nat.eq_of_beq_eq_true hI
    replace h := sL_i h
    obtain ⟨n1, y, T, rfl, h⟩ := h
    replace h := sL_i h
    obtain ⟨n2, x, T, rfl, h⟩ := h
    have hT := okt hSo
    obtain ⟨hy, hT⟩ := hT
    replace hT := okt hT
    obtain ⟨hx1, hT⟩ := hT
    have hy : i64 y := hy
    have hx1 : i64 x := hx1
    split at hd2
    · rename_i o off heq
      simp only [Bool.and_eq_true, decide_eq_true_eq] at hd2
      obtain ⟨ho, h2⟩ := hd2
      subst ho
      refine W.lcmp hx hb hd1 ?_
      exact x_lif hx hb heq h2 hx1 hy (fun q => go (h.1 q) hDy hL hlen hLo hT) (fun q => go (h.2 q) hDy hL hlen hLo hT)
    · cases hd2
  case getfield idx =>
    simp only [chkI, Bool.and_eq_true, decide_eq_true_eq] at hI
    obtain ⟨h1, h2, h3⟩ := hI
    cases Nat.eq_of_beq_eq_true h1
    have hd := of_decide_eq_true hDd
    cases hf : fls[ts.headD 0]? with
    | none => rw [hf] at h2; cases h2
    | some q =>
      obtain ⟨o, i, ci, kf, pos⟩ := q
      rw [hf] at h2
      simp only [Bool.and_eq_true] at h2
      obtain ⟨e1, e2, e3, e4⟩ := h2
      cases Nat.eq_of_beq_eq_true e1
      cases Nat.eq_of_beq_eq_true e2
      cases Nat.eq_of_beq_eq_true e3
      cases Nat.eq_of_beq_eq_true e4
      obtain ⟨C, TF, N, hc, hk, hC1, hlk⟩ := fls_at hf
      obtain ⟨hn, hws, hcn, ty0, hty, hkt, hnm⟩ := xcl_ok _ _ hc
      dsimp only at hn hws hcn hty hkt hnm
      replace h := sO_i h
      obtain ⟨a, T, rfl, h⟩ := h
      have hT := okt hSo
      obtain ⟨ha, hT⟩ := hT
      obtain ⟨b, rfl⟩ := nat_of ha.1
      have hsh : SH[b]? = some (2, _) := ha.2
      have hkd := kt_kind (hkt _ hk)
      rw [h3] at hkd
      dsimp only at hkd
      refine va_get (D := D) hx hb hts hws hown hst.1 hDy.1 b (xW_at hsh) hc _ hk (hts _ hlk) (fun _ z => z) (v := mkV G (fget M b a2 a3 a4 c0)) ?_ hd (go h hDy hL hlen hLo (okc (fget_ok hDy.2.2.2.1 hsh (by rw [hn]; exact hk) h3 hkd) hT))
      rw [xfl_at (by rw [hn]; exact hk), h3, fget_mk hkd]
  case putfield idx =>
    simp only [chkI, Bool.and_eq_true, decide_eq_true_eq] at hI
    obtain ⟨h1, h2, h3, h4⟩ := hI
    cases Nat.eq_of_beq_eq_true h1
    have hd := of_decide_eq_true hDd
    cases hf : fls[ts.headD 0]? with
    | none => rw [hf] at h2; cases h2
    | some q =>
      obtain ⟨o, i, ci, kf, pos⟩ := q
      rw [hf] at h2
      simp only [Bool.and_eq_true] at h2
      obtain ⟨e1, e2, e3, e4⟩ := h2
      cases Nat.eq_of_beq_eq_true e1
      cases Nat.eq_of_beq_eq_true e2
      cases Nat.eq_of_beq_eq_true e3
      cases Nat.eq_of_beq_eq_true e4
      obtain ⟨C, TF, N, hc, hk, hC1, hlk⟩ := fls_at hf
      obtain ⟨hn, hws, hcn, ty0, hty, hkt, hnm⟩ := xcl_ok _ _ hc
      dsimp only at hn hws hcn hty hkt hnm
      rw [hc] at h4
      have hfin : (TF a2).2.2.2 = false := by simpa using h4
      have hkl : a2 < (xfs.getD a1 []).length := by rw [hn]; exact hk
      have hkt1 := hkt _ hk
      rw [h3] at hkt1
      replace h := s3_i h
      rcases h with ⟨rfl, h⟩ | ⟨rfl, h⟩
      · replace h := sI_i h
        obtain ⟨n0, x, T, rfl, h⟩ := h
        replace h := sO_i h
        obtain ⟨a, T, rfl, h⟩ := h
        have hT := okt hSo
        obtain ⟨hx1, hT⟩ := hT
        replace hT := okt hT
        obtain ⟨ha, hT⟩ := hT
        have hx1 : i32 x := hx1
        obtain ⟨b, rfl⟩ := nat_of ha.1
        have hsh : SH[b]? = some (2, _) := ha.2
        simp only [ktB, Bool.or_eq_true, Bool.and_eq_true, decide_eq_true_eq] at hkt1
        have hkk : xSim SH G cA D A Ls xs l d k (pc + 3) L T (up M b a2 x) Q ∧ narrow (ty0 a2) (.int (Int32.ofInt x)) = .int (Int32.ofInt x) ∧ fits (ty0 a2) (.int (Int32.ofInt x)) = true := by
          rcases hkt1 with ⟨q1, q2⟩ | ⟨q1, q2⟩
          · cases Nat.eq_of_beq_eq_true q1
            exact ⟨h, by rw [q2]; rfl, by rw [q2]; rfl⟩
          · cases Nat.eq_of_beq_eq_true q1
            replace h := rb_i h
            obtain ⟨hx2, h⟩ := h
            exact ⟨h, by rw [q2]; rcases hx2 with rfl | rfl <;> rfl, by rw [q2]; rcases hx2 with rfl | rfl <;> rfl⟩
        refine va_put (D := D) hx hb hts hws ty0 hty hnm hown hst.1 hDy.1 hDy.2.1 hDy.2.2.1 b (xW_at hsh) hc _ hk (hts _ hlk) (fun _ z => z) hfin (v := .int (Int32.ofInt x)) (hty _ hk) hkk.2.1 hkk.2.2 (by rw [xfl_len]; exact hkl) hd (fun H1 locs1 hP1 hD1 hS1 => ?_)
        rw [xW_up (i := (a2 : Int)) (v := x) hsh (congrArg (fun f => (Sum.inr (a1, f) : va_E)) (xfl_up hkl (by rw [h3]; show Value.int (Int32.ofInt (up M b a2 x b a2)) = _; rw [up_same])))] at hP1 hD1
        exact go hkk.1 ⟨hP1, hD1, hS1, okM_up hDy.2.2.2.1 hsh (okC_put (hDy.2.2.2.1 b _ hsh) (by rw [h3]; exact hx1)), xScr_up hDy.2.2.2.2⟩ hL hlen hLo hT
      · replace h := sL_i h
        obtain ⟨n0, x, T, rfl, h⟩ := h
        replace h := sO_i h
        obtain ⟨a, T, rfl, h⟩ := h
        have hT := okt hSo
        obtain ⟨hx1, hT⟩ := hT
        replace hT := okt hT
        obtain ⟨ha, hT⟩ := hT
        have hx1 : i64 x := hx1
        obtain ⟨b, rfl⟩ := nat_of ha.1
        have hsh : SH[b]? = some (2, _) := ha.2
        simp only [ktB, decide_eq_true_eq] at hkt1
        refine va_put (D := D) hx hb hts hws ty0 hty hnm hown hst.1 hDy.1 hDy.2.1 hDy.2.2.1 b (xW_at hsh) hc _ hk (hts _ hlk) (fun _ z => z) hfin (v := .long (Int64.ofInt x)) (hty _ hk) (by rw [hkt1]; rfl) (by rw [hkt1]; rfl) (by rw [xfl_len]; exact hkl) hd (fun H1 locs1 hP1 hD1 hS1 => ?_)
        rw [xW_up (i := (a2 : Int)) (v := x) hsh (congrArg (fun f => (Sum.inr (a1, f) : va_E)) (xfl_up hkl (by rw [h3]; show Value.long (Int64.ofInt (up M b a2 x b a2)) = _; rw [up_same])))] at hP1 hD1
        exact go h ⟨hP1, hD1, hS1, okM_up hDy.2.2.2.1 hsh (okC_put (hDy.2.2.2.1 b _ hsh) (by rw [h3]; exact hx1)), xScr_up hDy.2.2.2.2⟩ hL hlen hLo hT
  case ireturn =>
    simp only [chkI, Bool.and_eq_true] at hI
    obtain ⟨h1, h2, h3⟩ := hI
    cases Nat.eq_of_beq_eq_true h1
    have hd := of_decide_eq_true hDd
    replace h := r1_i h
    obtain ⟨n, x, rfl, h⟩ := h
    obtain ⟨hx1, -⟩ := okt hSo
    have e2 := Nat.eq_of_beq_eq_true h2
    have e3 := Nat.le_of_ble_eq_true h3
    have hq : Q (xI x) M ∧ (bol t.2.2.2.2.1 = 0 ∨ (bol t.2.2.2.2.1 = 1 ∧ (x = 0 ∨ x = 1))) := by
      replace h := sZ_i h
      rcases h with ⟨q, h⟩ | ⟨q, h⟩
      · exact ⟨h, Or.inl (by omega)⟩
      · replace h := rb_i h
        obtain ⟨hx2, h⟩ := h
        exact ⟨h, Or.inr ⟨by omega, hx2⟩⟩
    exact hH (xI x) M H locs pc ls .ireturn hq.1 hx1 hDy hd ⟨rfl, hq.2⟩
  case lreturn =>
    simp only [chkI, Bool.and_eq_true] at hI
    obtain ⟨h1, h2⟩ := hI
    cases Nat.eq_of_beq_eq_true h1
    have hd := of_decide_eq_true hDd
    replace h := r2_i h
    obtain ⟨n, x, rfl, h⟩ := h
    obtain ⟨hx1, -⟩ := okt hSo
    exact hH (xL x) M H locs pc ls .lreturn h hx1 hDy hd ⟨rfl, Nat.eq_of_beq_eq_true h2⟩
  case return_ =>
    simp only [chkI, Bool.and_eq_true] at hI
    obtain ⟨h1, h2⟩ := hI
    cases Nat.eq_of_beq_eq_true h1
    have hd := of_decide_eq_true hDd
    replace h := r0_i h
    obtain ⟨rfl, h⟩ := h
    exact hH xU M H locs pc ls .return_ h trivial hDy hd ⟨rfl, Nat.eq_of_beq_eq_true h2⟩
  case invokevirtual idx =>
    simp only [chkI, Bool.and_eq_true] at hI
    obtain ⟨hlen3, hI⟩ := hI
    cases Nat.eq_of_beq_eq_true hlen3
    have hd := of_decide_eq_true hDd
    replace h := sMv_i h
    rcases h with ⟨rfl, h⟩ | ⟨rfl, h⟩ | ⟨hne1, hne2, h⟩
    · replace h := sS_i h
      obtain ⟨n, a, T, rfl, h⟩ := h
      replace h := sW_i h
      obtain ⟨hwd, h⟩ := h
      have hT := okt hSo
      obtain ⟨-, hT⟩ := hT
      exact x_strlen hx hb hml hown hts hst hDy.2.2.1 hL.1 hlen (by omega) (by omega) hrc hrs hI hwd hd (go h hDy hL hlen hLo (okc (v := xI 7) ⟨by decide, by decide⟩ hT))
    · replace h := sI_i h
      obtain ⟨n0, j, T, rfl, h⟩ := h
      replace h := sS_i h
      obtain ⟨n, a, T, rfl, h⟩ := h
      replace h := sW_i h
      obtain ⟨hwd, h⟩ := h
      obtain ⟨hin, h⟩ := h
      have hT := okt hSo
      obtain ⟨hj, hT⟩ := hT
      replace hT := okt hT
      obtain ⟨-, hT⟩ := hT
      exact x_charAt hx hb hml hown hts hst hDy.2.2.1 hL.1 hlen (by omega) (by omega) hrc hrs hI hwd hin hd (go h hDy hL hlen hLo (okc (v := xI (strv j)) (strv_ok j) hT))
    · have hI : chkVc t.1 idx a1 a2 a3 a4 c0 ts = true := by
        revert hI
        unfold selV
        split
        · exact absurd rfl hne1
        · exact absurd rfl hne2
        · exact id
      unfold chkVc at hI
    
      replace h := sC_i h
      obtain ⟨hn1, hn2, hn3, h⟩ := h
      replace h := sH_i h
      obtain ⟨⟨x, As, hrecv⟩, h⟩ := h
      replace h := sd_i h
      obtain ⟨d', rfl, h⟩ := h
      cases hm : mls[ts.headD 0]? with
      | none => rw [hm] at hI; exact absurd hI (by simp)
      | some q =>
        obtain ⟨o, i, k1, nest, pos⟩ := q
        rw [hm] at hI
        cases ht1 : mts[a1]? with
        | none => rw [ht1] at hI; exact absurd hI (by simp)
        | some t1 =>
          obtain ⟨ow, st, y, maxL, ret, pcw, pi, pk, ps, np⟩ := t1
          rw [ht1] at hI
          simp only [Bool.and_eq_true, decide_eq_true_eq, Bool.not_eq_true'] at hI
          obtain ⟨⟨e1, e2, e3, e4⟩, e5, e6, e7, e8, e9⟩ := hI
          cases Nat.eq_of_beq_eq_true e1
          cases Nat.eq_of_beq_eq_true e2
          cases Nat.eq_of_beq_eq_true e3
          cases Nat.eq_of_beq_eq_true e4
          cases Nat.eq_of_beq_eq_true e5
          cases Nat.eq_of_beq_eq_true e6
          cases Nat.eq_of_beq_eq_true e8
          subst e7
          have hnl : a1 ≠ kLaw_law := fun q => by
            rw [q] at ht1
            have : some (10, 1) = (mts[kLaw_law]?).map (fun t => (t.1, t.2.1)) := by decide +kernel
            rw [ht1] at this
            simp at this
          have htok := mts_tok ht1 hnl
          have hcm := code_mem htok
          have htk := htok
          simp only [xtok, Bool.and_eq_true, decide_eq_true_eq] at htk
          obtain ⟨hcn, -, hini, hkind, hpl, hny1, hny2, hnp⟩ := htk
          have hmx : a3 ≤ 40 := Nat.le_of_ble_eq_true (List.all_eq_true.mp mts_max _ (List.mem_of_getElem? ht1))
          have hlk := mls_at hm
          have hoks : ∀ v ∈ (S.take (np + 1)).reverse, okV SH v := fun v hv => hSo v (List.mem_of_mem_take (List.mem_reverse.mp hv))
          have hokT : ∀ v ∈ S.drop (np + 1), okV SH v := fun v hv => hSo v (List.mem_of_mem_drop hv)
          have hMet := x_met (l := l) ht1 hnl htok hn3 hoks hDy.2.1 hDy.2.2.2.1 hDy.2.2.2.2 h
          have hG : GoodIn xTT (Cond.code y (xbyt pcw) a3 ret :: xTT) := fun w hw => by
            rcases List.mem_cons.mp hw with e | e
            · rw [e]; exact tt_good _ hcm
            · exact tt_good w e
          have hbl : FrameBlind (va_Pc (((S.take (np + 1)).reverse).map (mkV G)) (fun U => xStat G cA D A Ls xs U ∧ va_P D xcl (xW SH G cA M) U.heap)) := fun a U g mk q => ⟨q.1, xStat_same rfl rfl q.2.1, q.2.2⟩
          have hpre : ∀ U : State, U.heap = H → s.WarmedH U.vm → (fun U => xStat G cA D A Ls xs U ∧ va_P D xcl (xW SH G cA M) U.heap) U := fun U hU hW => ⟨xStat_warm hW hU hDy.2.2.1 hst, by show va_P D xcl _ U.heap; rw [hU]; exact hDy.1⟩
          have hroom : d' + 8 + 1 ≤ R.frames ∧ 8 + (a3 + 11) + (60 * d' + 200) ≤ R.locals := ⟨by omega, by omega⟩
          have hwid : 2 * (F0 m pc ls (S.map (mkV G))).monitorRoom + (((S.drop (np + 1)).map (mkV G)).map fun v => v.category).sum ≤ 8 := by
            rw [wid_cat]
            show 2 * 0 + _ ≤ 8
            omega
    
          simp only [xmok, ht1, decide_eq_true_eq] at hlk
          rw [Int.toNat_natCast] at hrecv
          have hrv : okV SH (2, ow, x) := hoks _ (by rw [hrecv]; exact List.mem_cons_self)
          obtain ⟨b, rfl⟩ := nat_of hrv.1
          have hsh : SH[b]? = some (2, ow) := hrv.2
          obtain ⟨rc, hrc1, -⟩ := hDy.1 b _ (xW_at hsh)
          obtain ⟨-, -, hcn2, -⟩ := xcl_ok _ _ hrc1
          have hcell := va_recv hst.1 hDy.1 hrc1 (xW_at hsh)
          have hnA : As.length = np := by
            have := congrArg List.length hrecv
            simp only [List.length_reverse, List.length_take, List.length_cons] at this
            omega
          rw [hrecv] at hMet hbl
          have hst0 : S.map (mkV G) = (As.map (mkV G)).reverse ++ .ref (G.1 b) :: (S.drop (np + 1)).map (mkV G) := by
            rw [map_split G S (np + 1), hrecv, List.map_cons, List.reverse_cons, List.append_assoc]
            rfl
          have hCB : CallB R s args (xcn t.1) idx y (xbyt pcw) a3 ret (Cond.code y (xbyt pcw) a3 ret :: xTT) { frames := d' + 8, cells := 0, slots := 0, locals := 60 * d' + 200 } 0 0 np := callB_of np hts hG rfl rfl rfl (hts _ (tt_mem hini rfl)) (hts _ (tt_mem hlk rfl)) ⟨hny1, hny2, hnp⟩ hroom
          refine x_back (va_runV (As := As.map (mkV G)) (rest := (S.drop (np + 1)).map (mkV G)) (C := y.cls) (b := G.1 b) ⟨hx, hb, hml, hown, hts⟩ hMet ⟨hCB, hts _ (tt_mem hkind.1 rfl), hts _ (tt_mem hkind.2 rfl)⟩ ⟨hbl, by rw [← hcn, hcn2]; exact hcell, fun U hU hW => ⟨rfl, hpre U hU hW⟩⟩ rfl (by rw [List.length_map]; exact hnA) (by show ls.size = _; rw [hL.1]; exact hlen) hst0 hwid hd ⟨by omega, by omega⟩) hDy.2.2.1 (fun r N H1 locs1 hq hr hk2 hdy1 => ?_)
          rw [push_eq (G := G) rfl hk2 e9]
          exact go hq hdy1 hL hlen hLo (okV_push hr hokT)
  case invokestatic idx =>
    simp only [chkI, Bool.and_eq_true] at hI
    obtain ⟨hlen3, hI⟩ := hI
    cases Nat.eq_of_beq_eq_true hlen3
    have hd := of_decide_eq_true hDd
    replace h := sMs_i h
    rcases h with ⟨rfl, h⟩ | ⟨rfl, h⟩ | ⟨rfl, h⟩ | ⟨rfl, h⟩ | ⟨hne1, hne2, hne3, hne4, h⟩
    · replace h := sD_i h
      obtain ⟨n, x, T, rfl, h⟩ := h
      replace h := sW_i h
      obtain ⟨hwd, hdk, h⟩ := h
      have hT := okt hSo
      obtain ⟨-, hT⟩ := hT
      have hI : (Nat.beq t.1 9 && Nat.beq idx 481) = true := hI
      rw [Bool.and_eq_true] at hI
      rw [Nat.eq_of_beq_eq_true hI.1] at hown
      cases Nat.eq_of_beq_eq_true hI.2
      exact x_d2l hx hb hml hown hts hst hDy.2.2.1 hL.1 hlen (by omega) (by omega) hrc hrs hdk hwd hd (go h hDy hL hlen hLo (okc (v := xL (d2l x)) (i64_t _) hT))
    · replace h := sI_i h
      obtain ⟨n1, y, T, rfl, h⟩ := h
      replace h := sI_i h
      obtain ⟨n2, x, T, rfl, h⟩ := h
      replace h := sW_i h
      obtain ⟨hwd, h⟩ := h
      have hT := okt hSo
      obtain ⟨hy, hT⟩ := hT
      replace hT := okt hT
      obtain ⟨hx1, hT⟩ := hT
      have hy : i32 y := hy
      have hx1 : i32 x := hx1
      refine va_mmin hx hb (by rw [hL.1, hlen]; exact hml) hown (hts _ (chkMa_in hI)) (hts _ ma_1) (hts _ ma_2) (hts _ ma_3) (by omega) (by rw [wid_cat]; omega) hrc hrs hd ?_
      have hg := go h hDy hL hlen hLo (okc (v := xI (mn x y)) (mn_i hx1 hy) hT)
      rw [List.map_cons, show mkV G (xI (mn x y)) = .int (if Int32.ofInt y < Int32.ofInt x then Int32.ofInt y else Int32.ofInt x) from congrArg Value.int (mn_32 hx1 hy)] at hg
      exact hg
    · replace h := sL_i h
      obtain ⟨n1, y, T, rfl, h⟩ := h
      replace h := sL_i h
      obtain ⟨n2, x, T, rfl, h⟩ := h
      replace h := sW_i h
      obtain ⟨hwd, h⟩ := h
      have hT := okt hSo
      obtain ⟨hy, hT⟩ := hT
      replace hT := okt hT
      obtain ⟨hx1, hT⟩ := hT
      have hy : i64 y := hy
      have hx1 : i64 x := hx1
      refine va_mmax_long hx hb (by rw [hL.1, hlen]; exact hml) hown (hts _ (chkMa_in hI)) (hts _ mb_1) (hts _ ma_2) (hts _ mb_3) (by omega) (by rw [wid_cat]; omega) hrc hrs hd ?_
      have hg := go h hDy hL hlen hLo (okc (v := xL (mx x y)) (mx_i hx1 hy) hT)
      rw [List.map_cons, show mkV G (xL (mx x y)) = .long (if Int64.ofInt y < Int64.ofInt x then Int64.ofInt x else Int64.ofInt y) from congrArg Value.long (mx_64 hx1 hy)] at hg
      exact hg
    · replace h := sL_i h
      obtain ⟨n1, y, T, rfl, h⟩ := h
      replace h := sL_i h
      obtain ⟨n2, x, T, rfl, h⟩ := h
      replace h := sW_i h
      obtain ⟨hwd, h⟩ := h
      have hT := okt hSo
      obtain ⟨hy, hT⟩ := hT
      replace hT := okt hT
      obtain ⟨hx1, hT⟩ := hT
      have hy : i64 y := hy
      have hx1 : i64 x := hx1
      refine va_mmin_long hx hb (by rw [hL.1, hlen]; exact hml) hown (hts _ (chkMa_in hI)) (hts _ mc_1) (hts _ ma_2) (hts _ mc_3) (by omega) (by rw [wid_cat]; omega) hrc hrs hd ?_
      have hg := go h hDy hL hlen hLo (okc (v := xL (mn x y)) (mn_i hx1 hy) hT)
      rw [List.map_cons, show mkV G (xL (mn x y)) = .long (if Int64.ofInt y < Int64.ofInt x then Int64.ofInt y else Int64.ofInt x) from congrArg Value.long (mn_64 hx1 hy)] at hg
      exact hg
    · have hI : chkSc t.1 idx a1 a2 a3 a4 ts = true := by
        revert hI
        unfold selS
        split
        · exact absurd rfl hne1
        · exact absurd rfl hne2
        · exact absurd rfl hne3
        · exact absurd rfl hne4
        · exact id
      unfold chkSc at hI
    
      replace h := sC_i h
      obtain ⟨hn1, hn2, hn3, h⟩ := h
      skip
      replace h := sd_i h
      obtain ⟨d', rfl, h⟩ := h
      cases hm : mls[ts.headD 0]? with
      | none => rw [hm] at hI; exact absurd hI (by simp)
      | some q =>
        obtain ⟨o, i, k1, nest, pos⟩ := q
        rw [hm] at hI
        cases ht1 : mts[a1]? with
        | none => rw [ht1] at hI; exact absurd hI (by simp)
        | some t1 =>
          obtain ⟨ow, st, y, maxL, ret, pcw, pi, pk, ps, np⟩ := t1
          rw [ht1] at hI
          simp only [Bool.and_eq_true, decide_eq_true_eq, Bool.not_eq_true'] at hI
          obtain ⟨⟨e1, e2, e3⟩, e5, e6, e8, e9, e10⟩ := hI
          cases Nat.eq_of_beq_eq_true e1
          cases Nat.eq_of_beq_eq_true e2
          cases Nat.eq_of_beq_eq_true e3
          cases Nat.eq_of_beq_eq_true e5
          cases Nat.eq_of_beq_eq_true e6
          cases Nat.eq_of_beq_eq_true e8
          have hnl : a1 ≠ kLaw_law := fun q => by
            rw [q] at e10
            exact absurd e10 (by decide)
          have htok := mts_tok ht1 hnl
          have hcm := code_mem htok
          have htk := htok
          simp only [xtok, Bool.and_eq_true, decide_eq_true_eq] at htk
          obtain ⟨hcn, -, hini, hkind, hpl, hny1, hny2, hnp⟩ := htk
          have hmx : a3 ≤ 40 := Nat.le_of_ble_eq_true (List.all_eq_true.mp mts_max _ (List.mem_of_getElem? ht1))
          have hlk := mls_at hm
          have hoks : ∀ v ∈ (S.take a2).reverse, okV SH v := fun v hv => hSo v (List.mem_of_mem_take (List.mem_reverse.mp hv))
          have hokT : ∀ v ∈ S.drop a2, okV SH v := fun v hv => hSo v (List.mem_of_mem_drop hv)
          have hMet := x_met (l := l) ht1 hnl htok hn3 hoks hDy.2.1 hDy.2.2.2.1 hDy.2.2.2.2 h
          have hG : GoodIn xTT (Cond.code y (xbyt pcw) a3 ret :: xTT) := fun w hw => by
            rcases List.mem_cons.mp hw with e | e
            · rw [e]; exact tt_good _ hcm
            · exact tt_good w e
          have hbl : FrameBlind (va_Pc (((S.take a2).reverse).map (mkV G)) (fun U => xStat G cA D A Ls xs U ∧ va_P D xcl (xW SH G cA M) U.heap)) := fun a U g mk q => ⟨q.1, xStat_same rfl rfl q.2.1, q.2.2⟩
          have hpre : ∀ U : State, U.heap = H → s.WarmedH U.vm → (fun U => xStat G cA D A Ls xs U ∧ va_P D xcl (xW SH G cA M) U.heap) U := fun U hU hW => ⟨xStat_warm hW hU hDy.2.2.1 hst, by show va_P D xcl _ U.heap; rw [hU]; exact hDy.1⟩
          have hroom : d' + 8 + 1 ≤ R.frames ∧ 8 + (a3 + 11) + (60 * d' + 200) ≤ R.locals := ⟨by omega, by omega⟩
          have hwid : 2 * (F0 m pc ls (S.map (mkV G))).monitorRoom + (((S.drop a2).map (mkV G)).map fun v => v.category).sum ≤ 8 := by
            rw [wid_cat]
            show 2 * 0 + _ ≤ 8
            omega
    
          have hnA : (((S.take a2).reverse).map (mkV G)).length = a2 := by
            rw [List.length_map, List.length_reverse, List.length_take]
            omega
          have hst0 := map_split G S a2
          have hkind : lw_tbl[pk]? = some (Cond.static y) := hkind
          cases nest with
          | zero =>
            simp only [xmok, ht1, decide_eq_true_eq] at hlk
            have hCB : CallB R s args (xcn t.1) idx y (xbyt pcw) a3 ret (Cond.code y (xbyt pcw) a3 ret :: xTT) { frames := d' + 8, cells := 0, slots := 0, locals := 60 * d' + 200 } 0 0 a2 := callB_of a2 hts hG rfl rfl rfl (hts _ (tt_mem hini rfl)) (hts _ (tt_mem hlk rfl)) ⟨hny1, hny2, hnp⟩ hroom
            refine x_back (va_runS (As := ((S.take a2).reverse).map (mkV G)) (rest := (S.drop a2).map (mkV G)) ⟨hx, hb, hml, hown, hts⟩ hMet ⟨hCB, hts _ (tt_mem hkind rfl)⟩ ⟨hbl, fun U hU hW => ⟨rfl, hpre U hU hW⟩⟩ rfl hnA (by show ls.size = _; rw [hL.1]; exact hlen) hst0 hwid hd ⟨by omega, by omega⟩) hDy.2.2.1 (fun r N H1 locs1 hq hr hk2 hdy1 => ?_)
            rw [push_eq (G := G) rfl hk2 e9]
            exact go hq hdy1 hL hlen hLo (okV_push hr hokT)
          | succ nest =>
            simp only [xmok, ht1, decide_eq_true_eq] at hlk
            have hCB : va_CN R s args (xcn t.1) idx y "RouteStrides" (xbyt pcw) a3 ret (Cond.code y (xbyt pcw) a3 ret :: xTT) { frames := d' + 8, cells := 0, slots := 0, locals := 60 * d' + 200 } 0 0 a2 := va_cnB a2 hts hG rfl rfl rfl (hst.2.2.2.2.2 _ _ _ (List.mem_of_getElem? hlk)) (hts _ (tt_mem hini rfl)) ⟨hny1, hny2, hnp⟩ hroom
            refine x_back (va_runSN (As := ((S.take a2).reverse).map (mkV G)) (rest := (S.drop a2).map (mkV G)) ⟨hx, hb, hml, hown, hts⟩ hMet ⟨hCB, hts _ (tt_mem hkind rfl), trivial⟩ ⟨hbl, fun U hU hW => ⟨rfl, hpre U hU hW⟩⟩ rfl hnA (by show ls.size = _; rw [hL.1]; exact hlen) hst0 hwid hd ⟨by omega, by omega⟩) hDy.2.2.1 (fun r N H1 locs1 hq hr hk2 hdy1 => ?_)
            rw [push_eq (G := G) rfl hk2 e9]
            exact go hq hdy1 hL hlen hLo (okV_push hr hokT)
end
section
/-! CONSTRUCTION: cells come one by one; an object is open (13) until its fields stand. -/
def gx (G : xG) (n q : Nat) : xG := (fun k => if k = n then q else G.1 k, G.2)
def okO (SH : xSH) (M : xM) : Prop := (∀ (a n : Nat), (SH[a]? = some (13, n) ∨ SH[a]? = some (14, n)) → ∀ j : Nat, 0 ≤ M a j ∧ M a j ≤ (SH.length : Int)) ∧ ∀ (a n : Nat), (SH[a]? = some (6, n) ∨ SH[a]? = some (7, n)) → ∀ j : Nat, 0 ≤ M a j ∧ M a j < (SH.length : Int)
theorem gx_lt {G : xG} {n q k : Nat} (h : k < n) : (gx G n q).1 k = G.1 k := if_neg (by omega)
theorem gx_at {G : xG} {n q : Nat} : (gx G n q).1 n = q := if_pos rfl
theorem lt_of_at {α : Type} {l : List α} {i : Nat} {x : α} (h : l[i]? = some x) : i < l.length := (List.getElem?_eq_some_iff.mp h).1
theorem okV_lt {SH : xSH} {t n : Nat} {x : Int} (ht : t = 2 ∨ t = 4) (h : okV SH (t, n, x)) : x.toNat < SH.length := by
  rcases ht with rfl | rfl
  · exact lt_of_at h.2
  · exact lt_of_at h.2
theorem one_lt {N : Nat} {x : Int} (h : 0 ≤ x ∧ x ≤ (N : Int)) (h0 : ¬ x = 0) : (x - 1).toNat < N := by omega
theorem xcell_gx {SH : xSH} {G : xG} {cA : Nat → ClassId} {M : xM} {a q : Nat} {sh : Nat × Nat} (h : SH[a]? = some sh) (hM : okM SH M) (hO : okO SH M)
    (hkd : ∀ ci k : Nat, k < (xfs.getD ci []).length → (xfld ci k).1 = 0 ∨ (xfld ci k).1 = 1 ∨ [2, 3, 4, 5, 6, 7, 12].contains (xfld ci k).1 = true) : xcell (gx G SH.length q) cA M a sh = xcell G cA M a sh := by
  obtain ⟨t, n⟩ := sh
  have hC : okC SH M a (t, n) := hM a _ h
  match t, h, hC with
  | 2, h, hC =>
    show Sum.inr (n, xfl (gx G SH.length q) M a n) = Sum.inr (n, xfl G M a n)
    have e : xfl (gx G SH.length q) M a n = xfl G M a n := by
      unfold xfl
      apply List.map_congr_left
      intro k hk
      have hk := List.mem_range.mp hk
      have h1 := hC k hk
      have h2 := hkd n k hk
      unfold xfv
      revert h1 h2
      cases xfld n k with
      | mk kd r =>
        match kd with
        | 0 => exact fun _ _ => rfl
        | 1 => exact fun _ _ => rfl
        | kd + 2 =>
          intro h1 _
          exact congrArg Value.ref (gx_lt (lt_of_at h1.2))
    rw [e]
  | 13, h, hC =>
    show Sum.inr (n, cfl (gx G SH.length q) M a n) = Sum.inr (n, cfl G M a n)
    have e : cfl (gx G SH.length q) M a n = cfl G M a n := by
      unfold cfl
      apply List.map_congr_left
      intro k hk
      have h1 := hO.1 a n (Or.inl h) k
      unfold cfv
      cases xfld n k with
      | mk kd r =>
        match kd with
        | 0 => rfl
        | 1 => rfl
        | kd + 2 =>
          show (if M a k = 0 then Value.null else .ref ((gx G SH.length q).1 (M a k - 1).toNat)) = _
          by_cases h0 : M a k = 0
          · rw [if_pos h0]
            show _ = (if M a k = 0 then Value.null else _)
            rw [if_pos h0]
          · rw [if_neg h0, gx_lt (one_lt h1 h0)]
            show _ = (if M a k = 0 then Value.null else _)
            rw [if_neg h0]
    rw [e]
  | 6, h, hC =>
    have e : (fun j : Nat => some ((gx G SH.length q).1 (M a j).toNat)) = fun j : Nat => some (G.1 (M a j).toNat) := by
      funext j
      have h1 := hO.2 a n (Or.inl h) j
      rw [gx_lt (by omega)]
    exact congrArg (fun f => (Sum.inl (cA 6, n, Sum.inr (Sum.inr (Sum.inr (Sum.inr f)))) : va_E)) e
  | 7, h, hC =>
    have e : (fun j : Nat => some ((gx G SH.length q).1 (M a j).toNat)) = fun j : Nat => some (G.1 (M a j).toNat) := by
      funext j
      have h1 := hO.2 a n (Or.inr h) j
      rw [gx_lt (by omega)]
    exact congrArg (fun f => (Sum.inl (cA 7, n, Sum.inr (Sum.inr (Sum.inr (Sum.inr f)))) : va_E)) e
  | 14, h, hC =>
    have e : (fun j : Nat => if M a j = 0 then none else some ((gx G SH.length q).1 (M a j - 1).toNat)) = fun j : Nat => if M a j = 0 then none else some (G.1 (M a j - 1).toNat) := by
      funext j
      have h1 := hO.1 a n (Or.inr h) j
      by_cases h0 : M a j = 0
      · rw [if_pos h0, if_pos h0]
      · rw [if_neg h0, if_neg h0, gx_lt (one_lt h1 h0)]
    exact congrArg (fun f => (Sum.inl (cA 6, n, Sum.inr (Sum.inr (Sum.inr (Sum.inr f)))) : va_E)) e
  | 0, _, _ => rfl
  | 1, _, _ => rfl
  | 3, _, _ => rfl
  | 4, _, _ => rfl
  | 5, _, _ => rfl
  | 8, _, _ => rfl
  | 9, _, _ => rfl
  | 10, _, _ => rfl
  | 11, _, _ => rfl
  | 12, _, _ => rfl
  | t + 15, _, _ => rfl
theorem app_at {SH : xSH} {a : Nat} {sh s2 : Nat × Nat} (h : SH[a]? = some sh) : (SH ++ [s2])[a]? = some sh := by
  rw [List.getElem?_append_left (lt_of_at h)]
  exact h
theorem app_inv {SH : xSH} {a : Nat} {sh s2 : Nat × Nat} (h : (SH ++ [s2])[a]? = some sh) : SH[a]? = some sh ∨ (a = SH.length ∧ sh = s2) := by
  by_cases hl : a < SH.length
  · rw [List.getElem?_append_left hl] at h
    exact Or.inl h
  · rw [List.getElem?_append_right (by omega)] at h
    have h0 : a - SH.length < 1 := lt_of_at h
    rw [show a - SH.length = 0 by omega] at h
    cases h
    exact Or.inr ⟨by omega, rfl⟩
theorem xW_gx {SH : xSH} {G : xG} {cA : Nat → ClassId} {M : xM} {q : Nat} {sh : Nat × Nat} (hM : okM SH M) (hO : okO SH M)
    (hkd : ∀ ci k : Nat, k < (xfs.getD ci []).length → (xfld ci k).1 = 0 ∨ (xfld ci k).1 = 1 ∨ [2, 3, 4, 5, 6, 7, 12].contains (xfld ci k).1 = true) :
    xW (SH ++ [sh]) (gx G SH.length q) cA M = xW SH G cA M ++ [(q, xcell (gx G SH.length q) cA M SH.length sh)] := by
  have hl : (xW SH G cA M).length = SH.length := by unfold xW; rw [List.length_mapIdx]
  apply List.ext_getElem?
  intro b
  by_cases hb : b < SH.length
  · obtain ⟨s2, hs⟩ : ∃ s2, SH[b]? = some s2 := ⟨_, List.getElem?_eq_getElem hb⟩
    rw [xW_at (app_at hs), List.getElem?_append_left (by rw [hl]; exact hb), xW_at hs, xcell_gx hs hM hO hkd, gx_lt hb]
  · by_cases he : b = SH.length
    · subst he
      rw [xW_at (sh := sh) (by rw [List.getElem?_append_right (Nat.le_refl _), Nat.sub_self]; rfl), List.getElem?_append_right (by rw [hl]; exact Nat.le_refl _), hl, Nat.sub_self, gx_at]
      rfl
    · rw [List.getElem?_eq_none (by unfold xW; rw [List.length_mapIdx, List.length_append]; simp; omega), List.getElem?_eq_none (by rw [List.length_append, hl]; simp; omega)]
theorem okV_app {SH : xSH} {s2 : Nat × Nat} {v : xV} (h : okV SH v) : okV (SH ++ [s2]) v := by
  obtain ⟨t, n, x⟩ := v
  unfold okV at h ⊢
  dsimp only at h ⊢
  split at h <;> first | exact h | exact ⟨h.1, app_at h.2⟩
theorem okC_app {SH : xSH} {M : xM} {a : Nat} {sh s2 : Nat × Nat} (h : okC SH M a sh) : okC (SH ++ [s2]) M a sh := by
  obtain ⟨t, n⟩ := sh
  unfold okC at h ⊢
  dsimp only at h ⊢
  split at h
  · intro k hk
    have h1 := h k hk
    revert h1
    cases xfld n k with
    | mk kd r =>
      match kd with
      | 0 => exact id
      | 1 => exact id
      | kd + 2 => exact fun h1 => ⟨h1.1, app_at h1.2⟩
  · exact h
  · exact fun j hj => okV_app (h j hj)
  · exact fun j hj => okV_app (h j hj)
  · trivial
  · trivial
  · exact h
theorem okM_app {SH : xSH} {M : xM} {s2 : Nat × Nat} (h : okM SH M) (h2 : okC (SH ++ [s2]) M SH.length s2) : okM (SH ++ [s2]) M := by
  intro a sh ha
  rcases app_inv ha with q | ⟨rfl, rfl⟩
  · exact okC_app (h a sh q)
  · exact h2
theorem okO_app {SH : xSH} {M : xM} {s2 : Nat × Nat} (h : okO SH M) (hz : ∀ j : Nat, M SH.length j = 0) : okO (SH ++ [s2]) M := by
  have hl : ((SH ++ [s2]).length : Int) = (SH.length : Int) + 1 := by rw [List.length_append]; rfl
  refine ⟨fun a n ha j => ?_, fun a n ha j => ?_⟩
  · rw [hl]
    rcases ha with ha | ha <;> rcases app_inv ha with q | ⟨rfl, -⟩
    · have := h.1 a n (Or.inl q) j; omega
    · rw [hz j]; omega
    · have := h.1 a n (Or.inr q) j; omega
    · rw [hz j]; omega
  · rw [hl]
    rcases ha with ha | ha <;> rcases app_inv ha with q | ⟨rfl, -⟩
    · have := h.2 a n (Or.inl q) j; omega
    · rw [hz j]; omega
    · have := h.2 a n (Or.inr q) j; omega
    · rw [hz j]; omega
end
section
/-! Rows of construction. -/
theorem kd_b : xfs.all (fun fs => fs.all (fun f => Nat.beq f.1 0 || (Nat.beq f.1 1 || [2, 3, 4, 5, 6, 7, 12].contains f.1))) = true := by decide +kernel
theorem hkd : ∀ ci k : Nat, k < (xfs.getD ci []).length → (xfld ci k).1 = 0 ∨ (xfld ci k).1 = 1 ∨ [2, 3, 4, 5, 6, 7, 12].contains (xfld ci k).1 = true := by
  intro ci k hk
  have hci : xfs.getD ci [] ∈ xfs := by
    rw [List.getD_eq_getElem?_getD] at hk ⊢
    cases h : xfs[ci]? with
    | none => rw [h] at hk; exact absurd hk (by simp)
    | some fs => exact List.mem_of_getElem? h
  have h1 := List.all_eq_true.mp kd_b _ hci
  have hm : xfld ci k ∈ xfs.getD ci [] := by
    unfold xfld
    rw [List.getD_eq_getElem?_getD (l := xfs.getD ci []), List.getElem?_eq_getElem hk]
    exact List.getElem_mem hk
  have h2 := List.all_eq_true.mp h1 _ hm
  simp only [Bool.or_eq_true] at h2
  rcases h2 with h2 | h2 | h2
  · exact Or.inl (Nat.eq_of_beq_eq_true h2)
  · exact Or.inr (Or.inl (Nat.eq_of_beq_eq_true h2))
  · exact Or.inr (Or.inr h2)
section CRows
variable {p : Program} {l : Launch} {e : Env} {R : Room} {s : State} {m : MethodId} {args : Array Value} {below : List Frame} {meth : Method} {c : Code} {H : Heap} {locs : List Loc} {cells slots : Nat} {Q : State → Prop}
variable {cc : ByteArray} {pc : Nat} {ls : Array Slot} {rest : List Value} {SH : xSH} {G : xG} {cA : Nat → ClassId} {D : va_G} {A : Nat → Prop} {Ls : Nat} {xs : Nat → Int32} {M : xM}
/-- an array comes -/
theorem c_newa (hx : p.tables.exec = Jvm.exec) (hb : c.code = cc) (hst : xStat G cA D A Ls xs s) (hDy : xDyn SH G cA D A Ls xs s.heap M H locs) (hO : okO SH M) (hz : ∀ j : Nat, M SH.length j = 0) (hA : ∀ q, s.heap.size ≤ q → A q)
    {atype : ArrayType} {ty : FieldType} {t i0 N : Nat} {a0 : vp_A} {n : Int32} (harr : (Cond.arrayClass (newarray.typeOf atype)).before args s = true) (hty : newarray.typeOf atype = ty) (hidx : (xtys cA)[i0]? = some (cA t, ty)) (hno : ∀ C, ty ≠ .object C)
    (hcell : ∀ G' : xG, xcell G' cA M SH.length (t, N) = .inl (cA t, a0)) (ha : ∀ cA : ClassId, vp_cell cA a0 = arrV cA N (fun _ => defaultValue ty)) (hok : okC (SH ++ [(t, N)]) M SH.length (t, N)) (hn : ¬ n < 0) (hN : n.toNatClampNeg = N) (hbytes : N * componentBytes ty ≤ 536870912) (hcells : cells + 1 ≤ R.cells) (hslots : slots + N ≤ R.slots) (hd : decode cc pc = .ok (.newarray atype, 2))
    (kk : ∀ (q : Nat) (H1 : Heap), xDyn (SH ++ [(t, N)]) (gx G SH.length q) cA D A Ls xs s.heap M H1 locs → okO (SH ++ [(t, N)]) M → W p l e R s m args below meth c H1 locs (cells + 1) (slots + N) Q (F0 m (pc + 2) ls (.ref q :: rest))) : W p l e R s m args below meth c H locs cells slots Q (F0 m pc ls (.int n :: rest)) := by
  refine va_newa hx hb harr hty hst.1 hDy.1 hDy.2.1 hDy.2.2.1 hA ha hn hN hbytes hcells hslots hd (fun q cA0 H1 hK1 hP1 hD1 hS1 => ?_)
  have e : cA0 = cA t := by
    have h1 := (hK1.2 (xtys cA).length (cA0, ty) (by rw [List.getElem?_append_right (Nat.le_refl _), Nat.sub_self]; rfl)).2
    have h2 := (hst.1.2 i0 _ hidx).2
    have h3 : va_RA s cA0 ty = (s.vm.findClass ("[" ++ ty.toString) = some cA0) := by
      cases ty <;> first | rfl | exact absurd rfl (hno _)
    have h4 : va_RA s (cA t) ty = (s.vm.findClass ("[" ++ ty.toString) = some (cA t)) := by
      cases ty <;> first | rfl | exact absurd rfl (hno _)
    rw [h3] at h1
    rw [h4] at h2
    exact Option.some.inj (h1.symm.trans h2)
  subst e
  have ew : xW SH G cA M ++ [(q, Sum.inl (cA t, a0))] = xW (SH ++ [(t, N)]) (gx G SH.length q) cA M := by rw [xW_gx hDy.2.2.2.1 hO hkd, hcell]
  rw [ew] at hP1 hD1
  exact kk q H1 ⟨hP1, hD1, hS1, okM_app hDy.2.2.2.1 hok, hDy.2.2.2.2⟩ (okO_app hO hz)
theorem c_newI (hx : p.tables.exec = Jvm.exec) (hb : c.code = cc) (hst : xStat G cA D A Ls xs s) (hDy : xDyn SH G cA D A Ls xs s.heap M H locs) (hO : okO SH M) (hz : ∀ j : Nat, M SH.length j = 0) (hA : ∀ q, s.heap.size ≤ q → A q) {N : Nat} {n : Int32} (harr : (Cond.arrayClass .int).before args s = true) (hn : ¬ n < 0) (hN : n.toNatClampNeg = N) (hbytes : N * 4 ≤ 536870912) (hcells : cells + 1 ≤ R.cells) (hslots : slots + N ≤ R.slots) (hd : decode cc pc = .ok (.newarray .int, 2))
    (kk : ∀ (q : Nat) (H1 : Heap), xDyn (SH ++ [(3, N)]) (gx G SH.length q) cA D A Ls xs s.heap M H1 locs → okO (SH ++ [(3, N)]) M → W p l e R s m args below meth c H1 locs (cells + 1) (slots + N) Q (F0 m (pc + 2) ls (.ref q :: rest))) : W p l e R s m args below meth c H locs cells slots Q (F0 m pc ls (.int n :: rest)) :=
  c_newa (atype := .int) (t := 3) (i0 := 0) (a0 := (N, .inl fun _ => 0)) hx hb hst hDy hO hz hA harr rfl rfl (fun _ h => by cases h) (fun G' => congrArg (fun f => (Sum.inl (cA 3, N, Sum.inl f) : va_E)) (funext fun j => by rw [hz j]; rfl)) (fun _ => rfl) (fun j _ => by rw [hz j]; exact ⟨by decide, by decide⟩) hn hN hbytes hcells hslots hd kk
theorem c_newL (hx : p.tables.exec = Jvm.exec) (hb : c.code = cc) (hst : xStat G cA D A Ls xs s) (hDy : xDyn SH G cA D A Ls xs s.heap M H locs) (hO : okO SH M) (hz : ∀ j : Nat, M SH.length j = 0) (hA : ∀ q, s.heap.size ≤ q → A q) {N : Nat} {n : Int32} (harr : (Cond.arrayClass .long).before args s = true) (hn : ¬ n < 0) (hN : n.toNatClampNeg = N) (hbytes : N * 8 ≤ 536870912) (hcells : cells + 1 ≤ R.cells) (hslots : slots + N ≤ R.slots) (hd : decode cc pc = .ok (.newarray .long, 2))
    (kk : ∀ (q : Nat) (H1 : Heap), xDyn (SH ++ [(4, N)]) (gx G SH.length q) cA D A Ls xs s.heap M H1 locs → okO (SH ++ [(4, N)]) M → W p l e R s m args below meth c H1 locs (cells + 1) (slots + N) Q (F0 m (pc + 2) ls (.ref q :: rest))) : W p l e R s m args below meth c H locs cells slots Q (F0 m pc ls (.int n :: rest)) :=
  c_newa (atype := .long) (t := 4) (i0 := 1) (N := N) (a0 := (N, .inr (.inl fun _ => 0))) hx hb hst hDy hO hz hA harr rfl rfl (fun _ h => by cases h) (fun G' => congrArg (fun f => (Sum.inl (cA 4, N, Sum.inr (Sum.inl f)) : va_E)) (funext fun j => by rw [hz j]; rfl)) (fun _ => rfl) (fun j _ => by rw [hz j]; exact ⟨by decide, by decide⟩) hn hN hbytes hcells hslots hd kk
theorem c_newZ (hx : p.tables.exec = Jvm.exec) (hb : c.code = cc) (hst : xStat G cA D A Ls xs s) (hDy : xDyn SH G cA D A Ls xs s.heap M H locs) (hO : okO SH M) (hz : ∀ j : Nat, M SH.length j = 0) (hA : ∀ q, s.heap.size ≤ q → A q) {N : Nat} {n : Int32} (harr : (Cond.arrayClass .boolean).before args s = true) (hn : ¬ n < 0) (hN : n.toNatClampNeg = N) (hbytes : N * 1 ≤ 536870912) (hcells : cells + 1 ≤ R.cells) (hslots : slots + N ≤ R.slots) (hd : decode cc pc = .ok (.newarray .boolean, 2))
    (kk : ∀ (q : Nat) (H1 : Heap), xDyn (SH ++ [(5, N)]) (gx G SH.length q) cA D A Ls xs s.heap M H1 locs → okO (SH ++ [(5, N)]) M → W p l e R s m args below meth c H1 locs (cells + 1) (slots + N) Q (F0 m (pc + 2) ls (.ref q :: rest))) : W p l e R s m args below meth c H locs cells slots Q (F0 m pc ls (.int n :: rest)) :=
  c_newa (atype := .boolean) (t := 5) (i0 := 2) (a0 := (N, .inl fun _ => 0)) hx hb hst hDy hO hz hA harr rfl rfl (fun _ h => by cases h) (fun G' => congrArg (fun f => (Sum.inl (cA 5, N, Sum.inl f) : va_E)) (funext fun j => by rw [hz j]; rfl)) (fun _ => rfl) (fun j _ => by rw [hz j]; exact ⟨by decide, by decide⟩) hn hN hbytes hcells hslots hd kk
theorem c_newB (hx : p.tables.exec = Jvm.exec) (hb : c.code = cc) (hst : xStat G cA D A Ls xs s) (hDy : xDyn SH G cA D A Ls xs s.heap M H locs) (hO : okO SH M) (hz : ∀ j : Nat, M SH.length j = 0) (hA : ∀ q, s.heap.size ≤ q → A q) {N : Nat} {n : Int32} (harr : (Cond.arrayClass .byte).before args s = true) (hn : ¬ n < 0) (hN : n.toNatClampNeg = N) (hbytes : N * 1 ≤ 536870912) (hcells : cells + 1 ≤ R.cells) (hslots : slots + N ≤ R.slots) (hd : decode cc pc = .ok (.newarray .byte, 2))
    (kk : ∀ (q : Nat) (H1 : Heap), xDyn (SH ++ [(12, N)]) (gx G SH.length q) cA D A Ls xs s.heap M H1 locs → okO (SH ++ [(12, N)]) M → W p l e R s m args below meth c H1 locs (cells + 1) (slots + N) Q (F0 m (pc + 2) ls (.ref q :: rest))) : W p l e R s m args below meth c H locs cells slots Q (F0 m pc ls (.int n :: rest)) :=
  c_newa (atype := .byte) (t := 12) (i0 := 5) (a0 := (N, .inl fun _ => 0)) hx hb hst hDy hO hz hA harr rfl rfl (fun _ h => by cases h) (fun G' => congrArg (fun f => (Sum.inl (cA 12, N, Sum.inl f) : va_E)) (funext fun j => by rw [hz j]; rfl)) (fun _ => rfl) (fun j _ => by rw [hz j]; exact ⟨by decide, by decide⟩) hn hN hbytes hcells hslots hd kk
/-- an object comes, all fields as they begin -/
theorem c_new (hx : p.tables.exec = Jvm.exec) (hb : c.code = cc) (hts : ∀ w ∈ xTT, w.before args s = true) (hst : xStat G cA D A Ls xs s) (hDy : xDyn SH G cA D A Ls xs s.heap M H locs) (hO : okO SH M) (hz : ∀ j : Nat, M SH.length j = 0) (hA : ∀ q, s.heap.size ≤ q → A q) {own C : String} {T : u_T} {N ci index : Nat} (hown : s.vm.findClass own = some m.cls) (hc : xcl[ci]? = some (C, T, N)) (hcl : Cond.classLink own index C ∈ xTT) (hinst : Cond.instantiable C N ∈ xTT) (hini : Cond.initialized C ∈ xTT) (hcells : cells + 1 ≤ R.cells) (hslots : slots + N ≤ R.slots) (hd : decode cc pc = .ok (.new index, 3))
    (hdef : ∀ (ty : Nat → FieldType), (∀ k, k < N → parseFieldDescriptor (T k).2.2.1 = some (ty k)) → ∀ j, j < N → defaultValue (ty j) = (match (xfld ci j).1 with
      | 0 => Value.int 0
      | 1 => Value.long 0
      | _ => Value.null))
    (kk : ∀ (q : Nat) (H1 : Heap), xDyn (SH ++ [(13, ci)]) (gx G SH.length q) cA D A Ls xs s.heap M H1 locs → okO (SH ++ [(13, ci)]) M → W p l e R s m args below meth c H1 locs (cells + 1) (slots + N) Q (F0 m (pc + 3) ls (.ref q :: rest))) : W p l e R s m args below meth c H locs cells slots Q (F0 m pc ls rest) := by
  obtain ⟨hn, hws, -, ty0, hty, -, -⟩ := xcl_ok _ _ hc
  dsimp only at hn hws hty
  have hcf : ∀ (G' : xG) (j : Nat), j < N → (cfl G' M SH.length ci)[j]? = some (match (xfld ci j).1 with
      | 0 => Value.int 0
      | 1 => Value.long 0
      | _ => Value.null) := by
    intro G' j hj
    unfold cfl
    rw [List.getElem?_map, List.getElem?_range (by rw [hn]; exact hj)]
    show some (cfv G' M SH.length j (xfld ci j)) = _
    unfold cfv
    rw [hz j]
    cases xfld ci j with
    | mk kd r =>
      match kd with
      | 0 => rfl
      | 1 => rfl
      | kd + 2 => rfl
  have hsame : ∀ G1 G2 : xG, cfl G1 M SH.length ci = cfl G2 M SH.length ci := by
    intro G1 G2
    apply List.ext_getElem?
    intro j
    by_cases hj : j < N
    · rw [hcf G1 j hj, hcf G2 j hj]
    · rw [List.getElem?_eq_none (by unfold cfl; rw [List.length_map, List.length_range, hn]; omega), List.getElem?_eq_none (by unfold cfl; rw [List.length_map, List.length_range, hn]; omega)]
  refine va_new (ci := ci) (fs := cfl G M SH.length ci) hx hb hts hws ty0 hty hown (hts _ hcl) (hts _ hinst) (hts _ hini) hst.1 hDy.1 hDy.2.1 hDy.2.2.1 hA hc (fun j hj => ?_) hcells hslots hd (fun q H1 hP1 hD1 hS1 => ?_)
  · rw [hdef ty0 hty j hj]
    unfold vp_V
    rw [List.getD_eq_getElem?_getD, hcf G j hj]
    rfl
  · have ew : xW SH G cA M ++ [(q, Sum.inr (ci, cfl G M SH.length ci))] = xW (SH ++ [(13, ci)]) (gx G SH.length q) cA M := by
      rw [xW_gx hDy.2.2.2.1 hO hkd]
      show _ = _ ++ [(q, Sum.inr (ci, cfl (gx G SH.length q) M SH.length ci))]
      rw [hsame G (gx G SH.length q)]
    rw [ew] at hP1 hD1
    exact kk q H1 ⟨hP1, hD1, hS1, okM_app hDy.2.2.2.1 trivial, hDy.2.2.2.2⟩ (okO_app hO hz)
/-- a final field of an open object gets its reference -/
theorem c_put (hx : p.tables.exec = Jvm.exec) (hb : c.code = cc) (hts : ∀ w ∈ xTT, w.before args s = true) (hst : xStat G cA D A Ls xs s) (hDy : xDyn SH G cA D A Ls xs s.heap M H locs) (hO : okO SH M) {own C : String} {T : u_T} {N ci index a j k : Nat} {ty : FieldType} (hown : s.vm.findClass own = some m.cls) (hc : xcl[ci]? = some (C, T, N)) (ha : SH[a]? = some (13, ci)) (hj : j < SH.length) (hk : k < N) (hkd2 : 2 ≤ (xfld ci k).1) (hlk : Cond.fieldLink own index (T k).1 (T k).2.1 (T k).2.2.1 ∈ xTT) (hfin : (T k).2.2.2 = true) (hin2 : meth.name = "<init>") (hdecl : (T k).1 = own) (hd0 : parseFieldDescriptor (T k).2.2.1 = some ty) (hnar : ∀ q, narrow ty (.ref q) = .ref q) (hfit : ∀ q, fits ty (.ref q) = true) (hd : decode cc pc = .ok (.putfield index, 3))
    (kk : ∀ (H1 : Heap) (locs1 : List Loc), xDyn SH G cA D A Ls xs s.heap (up M a k ((j : Int) + 1)) H1 locs1 → okO SH (up M a k ((j : Int) + 1)) → W p l e R s m args below meth c H1 locs1 cells slots Q (F0 m (pc + 3) ls rest)) : W p l e R s m args below meth c H locs cells slots Q (F0 m pc ls (.ref (G.1 j) :: .ref (G.1 a) :: rest)) := by
  obtain ⟨hn, hws, -, ty0, hty, -, hnm⟩ := xcl_ok _ _ hc
  dsimp only at hn hws hty hnm
  have hkl : k < (xfs.getD ci []).length := by rw [hn]; exact hk
  refine va_putF (D := D) hx hb hts hws ty0 hty hnm hown hst.1 hDy.1 hDy.2.1 hDy.2.2.1 a (xW_at ha) hc k hk (hts _ hlk) (fun _ z => z) hfin hin2 hdecl hd0 (hnar _) (hfit _) (by unfold cfl; rw [List.length_map, List.length_range]; exact hkl) hd (fun H1 locs1 hP1 hD1 hS1 => ?_)
  have ec : xcell G cA (up M a k ((j : Int) + 1)) a (13, ci) = (Sum.inr (ci, (cfl G M a ci).set k (.ref (G.1 j))) : va_E) := by
    show Sum.inr (ci, cfl G (up M a k ((j : Int) + 1)) a ci) = _
    congr 2
    apply List.ext_getElem?
    intro i
    by_cases hi : k = i
    · subst hi
      rw [List.getElem?_set_self (by unfold cfl; rw [List.length_map, List.length_range]; exact hkl)]
      unfold cfl
      rw [List.getElem?_map, List.getElem?_range hkl]
      show some (cfv G (up M a k ((j : Int) + 1)) a k (xfld ci k)) = _
      unfold cfv
      rw [up_same]
      revert hkd2
      cases xfld ci k with
      | mk kd r =>
        match kd with
        | 0 => exact fun h => absurd h (by simp)
        | 1 => exact fun h => absurd h (by simp)
        | kd + 2 =>
          intro _
          show some (if ((j : Int) + 1) = 0 then Value.null else .ref (G.1 (((j : Int) + 1) - 1).toNat)) = _
          rw [if_neg (by omega), show (((j : Int) + 1) - 1).toNat = j by omega]
    · rw [List.getElem?_set_ne hi]
      unfold cfl
      by_cases hl : i < (xfs.getD ci []).length
      · rw [List.getElem?_map, List.getElem?_map, List.getElem?_range hl]
        show some (cfv G (up M a k ((j : Int) + 1)) a i (xfld ci i)) = some (cfv G M a i (xfld ci i))
        have e2 : up M a k ((j : Int) + 1) a i = M a i := up_off (fun q => hi (by omega))
        unfold cfv
        simp only [e2]
      · rw [List.getElem?_eq_none (by rw [List.length_map, List.length_range]; omega), List.getElem?_eq_none (by rw [List.length_map, List.length_range]; omega)]
  rw [xW_up ha ec] at hP1 hD1
  refine kk H1 locs1 ⟨hP1, hD1, hS1, okM_up hDy.2.2.2.1 ha trivial, xScr_up hDy.2.2.2.2⟩ ⟨fun b n hb i => ?_, fun b n hb i => ?_⟩
  · by_cases e : b = a
    · subst e
      by_cases e2 : (i : Int) = (k : Int)
      · rw [e2, up_same]; omega
      · rw [up_off e2]; exact hO.1 b n hb i
    · rw [up_ne (nat_cast_ne e)]; exact hO.1 b n hb i
  · by_cases e : b = a
    · subst e
      rw [ha] at hb
      rcases hb with hb | hb <;> cases hb
    · rw [up_ne (nat_cast_ne e)]; exact hO.2 b n hb i
end CRows
end
section
/-! CONSTRUCTION: an object stands; arrays of references. -/
theorem vp_same {cA : ClassId} {n : Nat} {f g : Nat → Option Nat} (h : ∀ j : Nat, j < n → f j = g j) : vp_cell cA (n, .inr (.inr (.inr (.inr f)))) = vp_cell cA (n, .inr (.inr (.inr (.inr g)))) := by
  have e : (fun j : Fin n => va_rf (f j.val)) = fun j : Fin n => va_rf (g j.val) := funext fun j => by rw [h j.val j.isLt]
  show ({ cls := cA, slots := Array.ofFn (n := n) (fun j : Fin n => va_rf (f j.val)), vm := .none } : Cell) = { cls := cA, slots := Array.ofFn (n := n) (fun j : Fin n => va_rf (g j.val)), vm := .none }
  rw [e]
/-- other shapes over the same heap -/
theorem xDyn_re {SH SH2 : xSH} {G : xG} {cA : Nat → ClassId} {D : va_G} {A : Nat → Prop} {Ls : Nat} {xs : Nat → Int32} {H0 : Heap} {M M2 : xM} {H : Heap} {locs : List Loc} (h : xDyn SH G cA D A Ls xs H0 M H locs) (hl : SH2.length = SH.length)
    (hc : ∀ (a : Nat) (sh sh2 : Nat × Nat), SH[a]? = some sh → SH2[a]? = some sh2 → va_at D xcl (G.1 a, xcell G cA M a sh) H → va_at D xcl (G.1 a, xcell G cA M2 a sh2) H) (hM : okM SH2 M2) (hs : xScr Ls xs M2) : xDyn SH2 G cA D A Ls xs H0 M2 H locs := by
  have key : ∀ (b : Nat) (q : Nat × va_E), (xW SH2 G cA M2)[b]? = some q → ∃ sh sh2 : Nat × Nat, SH[b]? = some sh ∧ SH2[b]? = some sh2 ∧ q = (G.1 b, xcell G cA M2 b sh2) := by
    intro b q hq
    have hb : b < SH2.length := by
      have h9 := lt_of_at hq
      unfold xW at h9
      rw [List.length_mapIdx] at h9
      exact h9
    obtain ⟨s1, h1⟩ : ∃ s1, SH[b]? = some s1 := ⟨_, List.getElem?_eq_getElem (by rw [← hl]; exact hb)⟩
    obtain ⟨s2, h2⟩ : ∃ s2, SH2[b]? = some s2 := ⟨_, List.getElem?_eq_getElem hb⟩
    rw [xW_at h2] at hq
    exact ⟨s1, s2, h1, h2, (Option.some.inj hq).symm⟩
  refine ⟨fun b q hq => ?_, ⟨fun i j x y hx hy hxy => ?_, fun b q hq => ?_⟩, h.2.2.1, hM, hs⟩
  · obtain ⟨s1, s2, h1, h2, rfl⟩ := key b q hq
    exact hc b s1 s2 h1 h2 (h.1 b _ (xW_at h1))
  · obtain ⟨s1, s2, h1, h2, rfl⟩ := key i x hx
    obtain ⟨t1, t2, g1, g2, rfl⟩ := key j y hy
    exact h.2.1.1 i j _ _ (xW_at h1) (xW_at g1) hxy
  · obtain ⟨s1, s2, h1, h2, rfl⟩ := key b q hq
    exact h.2.1.2 b (G.1 b, xcell G cA M b s1) (xW_at h1)
theorem set_at {SH : xSH} {a b : Nat} {sh s2 : Nat × Nat} (h : (SH.set a s2)[b]? = some sh) : (b = a ∧ sh = s2) ∨ (¬ b = a ∧ SH[b]? = some sh) := by
  by_cases e : a = b
  · subst e
    have hl := lt_of_at h
    rw [List.length_set] at hl
    rw [List.getElem?_set_self hl] at h
    exact Or.inl ⟨rfl, (Option.some.inj h).symm⟩
  · rw [List.getElem?_set_ne e] at h
    exact Or.inr ⟨fun q => e q.symm, h⟩
theorem set_nx {SH : xSH} {a b : Nat} {sh s2 : Nat × Nat} (h : SH[b]? = some sh) (hn : ¬ b = a) : (SH.set a s2)[b]? = some sh := by
  rw [List.getElem?_set_ne (fun q => hn q.symm)]
  exact h
theorem open_ne {SH : xSH} {a x t n : Nat} {s0 : Nat × Nat} (ha : SH[a]? = some s0) (h0 : s0.1 = 13 ∨ s0.1 = 14) (h : SH[x]? = some (t, n)) (h1 : ¬ t = 13) (h2 : ¬ t = 14) : ¬ x = a := by
  intro q
  rw [q, ha] at h
  have e : s0 = (t, n) := Option.some.inj h
  subst e
  rcases h0 with h0 | h0
  · exact h1 h0
  · exact h2 h0
theorem okV_set {SH : xSH} {a : Nat} {s0 s2 : Nat × Nat} {v : xV} (ha : SH[a]? = some s0) (h0 : s0.1 = 13 ∨ s0.1 = 14) (h1 : ¬ v.1 = 13) (h2 : ¬ v.1 = 14) (h : okV SH v) : okV (SH.set a s2) v := by
  obtain ⟨t, n, x⟩ := v
  dsimp only at h1 h2
  unfold okV at h ⊢
  dsimp only at h ⊢
  split at h <;> first | exact h | exact ⟨h.1, set_nx h.2 (open_ne ha h0 h.2 h1 h2)⟩
theorem okC_set {SH : xSH} {M : xM} {a b : Nat} {s0 s2 sh : Nat × Nat} (ha : SH[a]? = some s0) (h0 : s0.1 = 13 ∨ s0.1 = 14) (h : okC SH M b sh) : okC (SH.set a s2) M b sh := by
  obtain ⟨t, n⟩ := sh
  unfold okC at h ⊢
  dsimp only at h ⊢
  split at h
  · intro k hk
    have h1 := h k hk
    have h2 := hkd n k hk
    revert h1 h2
    cases xfld n k with
    | mk kd r =>
      match kd with
      | 0 => exact fun h1 _ => h1
      | 1 => exact fun h1 _ => h1
      | kd + 2 =>
        intro h1 h2
        have h3 : SH[((b : Int) + r.2).toNat]? = some (kd + 2, r.1) := h1.2
        have h4 : kd + 2 = 0 ∨ kd + 2 = 1 ∨ [2, 3, 4, 5, 6, 7, 12].contains (kd + 2) = true := h2
        have h5 : ∀ z : Nat, [2, 3, 4, 5, 6, 7, 12].contains z = false → ¬ kd + 2 = z ∨ kd + 2 = 0 ∨ kd + 2 = 1 := by
          intro z hz
          rcases h4 with h4 | h4 | h4
          · exact Or.inr (Or.inl h4)
          · exact Or.inr (Or.inr h4)
          · refine Or.inl (fun e => ?_)
            rw [e, hz] at h4
            cases h4
        have h6 := h5 13 (by decide)
        have h7 := h5 14 (by decide)
        exact ⟨h1.1, set_nx h3 (open_ne ha h0 h3 (by omega) (by omega))⟩
  · exact h
  · exact fun j hj => okV_set ha h0 (by show ¬ (2 : Nat) = 13; decide) (by show ¬ (2 : Nat) = 14; decide) (h j hj)
  · exact fun j hj => okV_set ha h0 (by show ¬ (4 : Nat) = 13; decide) (by show ¬ (4 : Nat) = 14; decide) (h j hj)
  · trivial
  · trivial
  · exact h
/-- an object's fields stand: it is one of its class -/
theorem c_done {SH : xSH} {G : xG} {cA : Nat → ClassId} {D : va_G} {A : Nat → Prop} {Ls : Nat} {xs : Nat → Int32} {H0 : Heap} {M : xM} {H : Heap} {locs : List Loc} {a ci : Nat} (h : xDyn SH G cA D A Ls xs H0 M H locs) (hO : okO SH M) (ha : SH[a]? = some (13, ci))
    (hf : ∀ k : Nat, k < (xfs.getD ci []).length → (match (xfld ci k).1 with
      | 0 => i32 (M a k)
      | 1 => i64 (M a k)
      | t => 0 ≤ (a : Int) + (xfld ci k).2.2 ∧ M a k = (a : Int) + (xfld ci k).2.2 + 1 ∧ (SH.set a (2, ci))[((a : Int) + (xfld ci k).2.2).toNat]? = some (t, (xfld ci k).2.1))) :
    xDyn (SH.set a (2, ci)) G cA D A Ls xs H0 M H locs ∧ okO (SH.set a (2, ci)) M := by
  refine ⟨xDyn_re h (by rw [List.length_set]) (fun b sh sh2 h1 h2 h3 => ?_) (fun b sh hb => ?_) h.2.2.2.2, ⟨fun b n hb j => ?_, fun b n hb j => ?_⟩⟩
  · rcases set_at h2 with ⟨e1, e2⟩ | ⟨e1, h4⟩
    · subst e2
      rw [e1] at h1 h3 ⊢
      rw [ha] at h1
      cases h1
      have e : xfl G M a ci = cfl G M a ci := by
        unfold xfl cfl
        apply List.map_congr_left
        intro k hk
        have hk := List.mem_range.mp hk
        have h5 := hf k hk
        unfold xfv cfv
        revert h5
        cases xfld ci k with
        | mk kd r =>
          match kd with
          | 0 => exact fun _ => rfl
          | 1 => exact fun _ => rfl
          | kd + 2 =>
            intro h5
            have h6 : M a k = (a : Int) + r.2 + 1 := h5.2.1
            have h7 : 0 ≤ (a : Int) + r.2 := h5.1
            show Value.ref (G.1 ((a : Int) + r.2).toNat) = if M a k = 0 then Value.null else .ref (G.1 (M a k - 1).toNat)
            rw [if_neg (by omega), h6, show (a : Int) + r.2 + 1 - 1 = (a : Int) + r.2 by omega]
      show va_at D xcl (G.1 a, Sum.inr (ci, xfl G M a ci)) H
      rw [e]
      exact h3
    · rw [h4] at h1
      cases h1
      exact h3
  · rcases set_at hb with ⟨e1, e2⟩ | ⟨e1, h4⟩
    · subst e2
      rw [e1]
      unfold okC
      dsimp only
      intro k hk
      have h5 := hf k hk
      revert h5
      cases xfld ci k with
      | mk kd r =>
        match kd with
        | 0 => exact id
        | 1 => exact id
        | kd + 2 => exact fun h5 => ⟨h5.1, h5.2.2⟩
    · exact okC_set ha (Or.inl rfl) (h.2.2.2.1 b sh h4)
  · rw [List.length_set]
    rcases hb with hb | hb <;> rcases set_at hb with ⟨-, e⟩ | ⟨-, h4⟩
    · cases e
    · exact hO.1 b n (Or.inl h4) j
    · cases e
    · exact hO.1 b n (Or.inr h4) j
  · rw [List.length_set]
    rcases hb with hb | hb <;> rcases set_at hb with ⟨-, e⟩ | ⟨-, h4⟩
    · cases e
    · exact hO.2 b n (Or.inl h4) j
    · cases e
    · exact hO.2 b n (Or.inr h4) j
/-- an array of tables is full -/
def dn (M : xM) (a : Int) : xM := fun b j => if b = a then (if M b j = 0 then 0 else M b j - 1) else M b j
theorem dn_ne {M : xM} {a b j : Int} (h : ¬ b = a) : dn M a b j = M b j := if_neg h
theorem dn_at {M : xM} {a j : Int} : dn M a a j = if M a j = 0 then 0 else M a j - 1 := if_pos rfl
theorem c_doneT {SH : xSH} {G : xG} {cA : Nat → ClassId} {D : va_G} {A : Nat → Prop} {Ls : Nat} {xs : Nat → Int32} {H0 : Heap} {M : xM} {H : Heap} {locs : List Loc} {a n : Nat} (h : xDyn SH G cA D A Ls xs H0 M H locs) (hO : okO SH M) (ha : SH[a]? = some (14, n))
    (hf : ∀ j : Nat, j < n → 0 < M a j ∧ SH[(M a j - 1).toNat]? = some (2, xTab)) :
    xDyn (SH.set a (6, n)) G cA D A Ls xs H0 (dn M a) H locs ∧ okO (SH.set a (6, n)) (dn M a) := by
  have hne : ∀ (b : Nat), ¬ b = a → ∀ j : Int, dn M a b j = M b j := fun b e j => dn_ne (nat_cast_ne e)
  have hpos : 0 < SH.length := Nat.lt_of_le_of_lt (Nat.zero_le _) (lt_of_at ha)
  refine ⟨xDyn_re h (by rw [List.length_set]) (fun b sh sh2 h1 h2 h3 => ?_) (fun b sh hb => ?_) ?_, ⟨fun b n2 hb j => ?_, fun b n2 hb j => ?_⟩⟩
  · rcases set_at h2 with ⟨e1, e2⟩ | ⟨e1, h4⟩
    · subst e2
      rw [e1] at h1 h3 ⊢
      rw [ha] at h1
      cases h1
      have e : vp_cell (cA 6) (n, .inr (.inr (.inr (.inr fun j : Nat => if M a j = 0 then none else some (G.1 (M a j - 1).toNat))))) = vp_cell (cA 6) (n, .inr (.inr (.inr (.inr fun j : Nat => some (G.1 (dn M a a j).toNat))))) := by
        refine vp_same (fun j hj => ?_)
        have h5 := (hf j hj).1
        have h6 : ¬ M a j = 0 := by omega
        rw [dn_at, if_neg h6, if_neg h6]
      show H[G.1 a]? = some (vp_cell (cA 6) (n, .inr (.inr (.inr (.inr fun j : Nat => some (G.1 (dn M a a j).toNat))))))
      rw [← e]
      exact h3
    · rw [h4] at h1
      cases h1
      have e : xcell G cA (dn M a) b sh = xcell G cA M b sh := by
        unfold xcell xfl xfv cfl cfv
        simp only [hne b e1]
      rw [e]
      exact h3
  · rcases set_at hb with ⟨e1, e2⟩ | ⟨e1, h4⟩
    · subst e2
      rw [e1]
      unfold okC
      dsimp only
      intro j hj
      have h5 := hf j hj
      have h6 : ¬ M a j = 0 := by omega
      have e9 : dn M a a j = M a j - 1 := by rw [dn_at, if_neg h6]
      rw [e9]
      exact okV_set ha (Or.inr rfl) (by show ¬ (2 : Nat) = 13; decide) (by show ¬ (2 : Nat) = 14; decide) (show okV SH (xO xTab (M a j - 1)) from ⟨by show 0 ≤ M a j - 1; omega, h5.2⟩)
    · have h5 := okC_set (s2 := (6, n)) ha (Or.inr rfl) (h.2.2.2.1 b sh h4)
      unfold okC at h5 ⊢
      simp only [hne b e1]
      exact h5
  · have e : ∀ j : Int, dn M a (-1) j = M (-1) j := fun j => dn_ne (by omega)
    have h5 := h.2.2.2.2
    unfold xScr at h5 ⊢
    simp only [e]
    exact h5
  · rw [List.length_set]
    rcases hb with hb | hb <;> rcases set_at hb with ⟨-, e⟩ | ⟨e1, h4⟩
    · cases e
    · rw [hne b e1]; exact hO.1 b n2 (Or.inl h4) j
    · cases e
    · rw [hne b e1]; exact hO.1 b n2 (Or.inr h4) j
  · rw [List.length_set]
    rcases hb with hb | hb <;> rcases set_at hb with ⟨e1, e⟩ | ⟨e1, h4⟩
    · rw [e1, dn_at]
      have h5 := hO.1 a n (Or.inr ha) j
      by_cases h6 : M a j = 0
      · rw [if_pos h6]; omega
      · rw [if_neg h6]; omega
    · rw [hne b e1]; exact hO.2 b n2 (Or.inl h4) j
    · cases e
    · rw [hne b e1]; exact hO.2 b n2 (Or.inr h4) j
section CRows2
variable {p : Program} {l : Launch} {e : Env} {R : Room} {s : State} {m : MethodId} {args : Array Value} {below : List Frame} {meth : Method} {c : Code} {H : Heap} {locs : List Loc} {cells slots : Nat} {Q : State → Prop}
variable {cc : ByteArray} {pc : Nat} {ls : Array Slot} {rest : List Value} {SH : xSH} {G : xG} {cA : Nat → ClassId} {D : va_G} {A : Nat → Prop} {Ls : Nat} {xs : Nat → Int32} {M : xM}
/-- an array of tables comes, empty -/
theorem c_newT (hx : p.tables.exec = Jvm.exec) (hb : c.code = cc) (hst : xStat G cA D A Ls xs s) (hDy : xDyn SH G cA D A Ls xs s.heap M H locs) (hO : okO SH M) (hz : ∀ j : Nat, M SH.length j = 0) (hA : ∀ q, s.heap.size ≤ q → A q) {own : String} {index N : Nat} {n : Int32} (hown : s.vm.findClass own = some m.cls) (hclink : (Cond.classLink own index "RouteStrides$Table").before args s = true) (hover : va_AO "RouteStrides$Table" s) (hn : ¬ n < 0) (hN : n.toNatClampNeg = N) (hbytes : N * 4 ≤ 536870912) (hcells : cells + 1 ≤ R.cells) (hslots : slots + N ≤ R.slots) (hd : decode cc pc = .ok (.anewarray index, 3))
    (kk : ∀ (q : Nat) (H1 : Heap), xDyn (SH ++ [(14, N)]) (gx G SH.length q) cA D A Ls xs s.heap M H1 locs → okO (SH ++ [(14, N)]) M → W p l e R s m args below meth c H1 locs (cells + 1) (slots + N) Q (F0 m (pc + 3) ls (.ref q :: rest))) : W p l e R s m args below meth c H locs cells slots Q (F0 m pc ls (.int n :: rest)) := by
  refine va_newq hx hb hown hclink hover hst.1 hDy.1 hDy.2.1 hDy.2.2.1 hA hn hN hbytes hcells hslots hd (fun q cA0 H1 hK1 hP1 hD1 hS1 => ?_)
  have e : cA0 = cA 6 := by
    obtain ⟨kA, comp, -, -, -, h1⟩ := (hK1.2 (xtys cA).length (cA0, .object "RouteStrides$Table") (by rw [List.getElem?_append_right (Nat.le_refl _), Nat.sub_self]; rfl)).2
    obtain ⟨kA2, comp2, -, -, -, h2⟩ := (hst.1.2 3 (cA 6, .object "RouteStrides$Table") rfl).2
    exact Option.some.inj (h1.symm.trans h2)
  subst e
  have ew : xW SH G cA M ++ [(q, Sum.inl (cA 6, N, .inr (.inr (.inr (.inr (fun _ => none))))))] = xW (SH ++ [(14, N)]) (gx G SH.length q) cA M := by
    rw [xW_gx hDy.2.2.2.1 hO hkd]
    have e2 : (fun j : Nat => if M SH.length j = 0 then none else some ((gx G SH.length q).1 (M SH.length j - 1).toNat)) = fun _ => none := funext fun j => if_pos (hz j)
    exact congrArg (fun f : Nat → Option Nat => xW SH G cA M ++ [(q, (Sum.inl (cA 6, N, .inr (.inr (.inr (.inr f)))) : va_E))]) e2.symm
  rw [ew] at hP1 hD1
  exact kk q H1 ⟨hP1, hD1, hS1, okM_app hDy.2.2.2.1 trivial, hDy.2.2.2.2⟩ (okO_app hO hz)
/-- a table goes into an array that is being filled -/
theorem c_ast (hx : p.tables.exec = Jvm.exec) (hb : c.code = cc) (hst : xStat G cA D A Ls xs s) (hDy : xDyn SH G cA D A Ls xs s.heap M H locs) (hO : okO SH M) {a j k n : Nat} (ha : SH[a]? = some (14, n)) (hj : SH[j]? = some (2, 6)) (hk : k < n) (hk2 : i32 (k : Int)) (hd : decode cc pc = .ok (.aastore, 1))
    (kk : ∀ (H1 : Heap) (locs1 : List Loc), xDyn SH G cA D A Ls xs s.heap (up M a k ((j : Int) + 1)) H1 locs1 → okO SH (up M a k ((j : Int) + 1)) → W p l e R s m args below meth c H1 locs1 cells slots Q (F0 m (pc + 1) ls rest)) : W p l e R s m args below meth c H locs cells slots Q (F0 m pc ls (.ref (G.1 j) :: .int (Int32.ofInt (k : Int)) :: .ref (G.1 a) :: rest)) := by
  refine va_astq hx hb hst.1 hDy.1 hDy.2.1 hDy.2.2.1 a 3 j 6 (r := (RX6, TX6, 8)) (f := fun q : Nat => if M a q = 0 then none else some (G.1 (M a q - 1).toNat)) (xW_at ha) rfl (xW_at hj) rfl (in32 (by omega) (by omega) hk2) hd (fun H1 locs1 hP1 hD1 hS1 => ?_)
  have ef : (fun q : Nat => if up M a k ((j : Int) + 1) a q = 0 then none else some (G.1 (up M a k ((j : Int) + 1) a q - 1).toNat)) = va_up (fun q : Nat => if M a q = 0 then none else some (G.1 (M a q - 1).toNat)) k (some (G.1 j)) := by
    funext q
    by_cases e : q = k
    · subst e
      rw [up_same]
      unfold va_up
      rw [if_pos rfl, if_neg (by omega), show ((j : Int) + 1 - 1).toNat = j by omega]
    · rw [up_off (nat_cast_ne e)]
      unfold va_up
      rw [if_neg e]
  rw [n32' hk2, xW_up (i := (k : Int)) (v := (j : Int) + 1) ha (show xcell G cA (up M a (k : Int) ((j : Int) + 1)) a (14, n) = (Sum.inl (cA 6, n, Sum.inr (Sum.inr (Sum.inr (Sum.inr (va_up (fun q : Nat => if M a q = 0 then none else some (G.1 (M a q - 1).toNat)) k (some (G.1 j))))))) : va_E) from congrArg (fun f => (Sum.inl (cA 6, n, Sum.inr (Sum.inr (Sum.inr (Sum.inr f)))) : va_E)) ef)] at hP1 hD1
  have hjl : j < SH.length := lt_of_at hj
  refine kk H1 locs1 ⟨hP1, hD1, hS1, okM_up hDy.2.2.2.1 ha trivial, xScr_up hDy.2.2.2.2⟩ ⟨fun b n2 hb i => ?_, fun b n2 hb i => ?_⟩
  · by_cases e : b = a
    · subst e
      by_cases e2 : (i : Int) = (k : Int)
      · rw [e2, up_same]; omega
      · rw [up_off e2]; exact hO.1 b n2 hb i
    · rw [up_ne (nat_cast_ne e)]; exact hO.1 b n2 hb i
  · by_cases e : b = a
    · subst e
      rw [ha] at hb
      rcases hb with hb | hb <;> cases hb
    · rw [up_ne (nat_cast_ne e)]; exact hO.2 b n2 hb i
end CRows2
end
section
/-! CONSTRUCTION: an array of rows comes whole. -/
theorem xcell_ag {SH : xSH} {G G2 : xG} {cA : Nat → ClassId} {M : xM} {a : Nat} {sh : Nat × Nat} (h : SH[a]? = some sh) (hM : okM SH M) (hO : okO SH M) (hg : ∀ k : Nat, k < SH.length → G2.1 k = G.1 k) : xcell G2 cA M a sh = xcell G cA M a sh := by
  obtain ⟨t, n⟩ := sh
  have hC : okC SH M a (t, n) := hM a _ h
  match t, h, hC with
  | 2, h, hC =>
    show Sum.inr (n, xfl G2 M a n) = Sum.inr (n, xfl G M a n)
    have e : xfl G2 M a n = xfl G M a n := by
      unfold xfl
      apply List.map_congr_left
      intro k hk
      have hk := List.mem_range.mp hk
      have h1 := hC k hk
      have h2 := hkd n k hk
      unfold xfv
      revert h1 h2
      cases xfld n k with
      | mk kd r =>
        match kd with
        | 0 => exact fun _ _ => rfl
        | 1 => exact fun _ _ => rfl
        | kd + 2 =>
          intro h1 _
          exact congrArg Value.ref (hg _ (lt_of_at h1.2))
    rw [e]
  | 13, h, hC =>
    show Sum.inr (n, cfl G2 M a n) = Sum.inr (n, cfl G M a n)
    have e : cfl G2 M a n = cfl G M a n := by
      unfold cfl
      apply List.map_congr_left
      intro k hk
      have h1 := hO.1 a n (Or.inl h) k
      unfold cfv
      cases xfld n k with
      | mk kd r =>
        match kd with
        | 0 => rfl
        | 1 => rfl
        | kd + 2 =>
          show (if M a k = 0 then Value.null else .ref (G2.1 (M a k - 1).toNat)) = _
          by_cases h0 : M a k = 0
          · rw [if_pos h0]
            show _ = (if M a k = 0 then Value.null else _)
            rw [if_pos h0]
          · rw [if_neg h0, hg _ (one_lt h1 h0)]
            show _ = (if M a k = 0 then Value.null else _)
            rw [if_neg h0]
    rw [e]
  | 6, h, hC =>
    have e : (fun j : Nat => some (G2.1 (M a j).toNat)) = fun j : Nat => some (G.1 (M a j).toNat) := by
      funext j
      have h1 := hO.2 a n (Or.inl h) j
      rw [hg _ (by omega)]
    exact congrArg (fun f => (Sum.inl (cA 6, n, Sum.inr (Sum.inr (Sum.inr (Sum.inr f)))) : va_E)) e
  | 7, h, hC =>
    have e : (fun j : Nat => some (G2.1 (M a j).toNat)) = fun j : Nat => some (G.1 (M a j).toNat) := by
      funext j
      have h1 := hO.2 a n (Or.inr h) j
      rw [hg _ (by omega)]
    exact congrArg (fun f => (Sum.inl (cA 7, n, Sum.inr (Sum.inr (Sum.inr (Sum.inr f)))) : va_E)) e
  | 14, h, hC =>
    have e : (fun j : Nat => if M a j = 0 then none else some (G2.1 (M a j - 1).toNat)) = fun j : Nat => if M a j = 0 then none else some (G.1 (M a j - 1).toNat) := by
      funext j
      have h1 := hO.1 a n (Or.inr h) j
      by_cases h0 : M a j = 0
      · rw [if_pos h0, if_pos h0]
      · rw [if_neg h0, if_neg h0, hg _ (one_lt h1 h0)]
    exact congrArg (fun f => (Sum.inl (cA 6, n, Sum.inr (Sum.inr (Sum.inr (Sum.inr f)))) : va_E)) e
  | 0, _, _ => rfl
  | 1, _, _ => rfl
  | 3, _, _ => rfl
  | 4, _, _ => rfl
  | 5, _, _ => rfl
  | 8, _, _ => rfl
  | 9, _, _ => rfl
  | 10, _, _ => rfl
  | 11, _, _ => rfl
  | 12, _, _ => rfl
  | t + 15, _, _ => rfl
theorem okV_ext {SH SH2 : xSH} {v : xV} (hp : ∀ (a : Nat) (sh : Nat × Nat), SH[a]? = some sh → SH2[a]? = some sh) (h : okV SH v) : okV SH2 v := by
  obtain ⟨t, n, x⟩ := v
  unfold okV at h ⊢
  dsimp only at h ⊢
  split at h <;> first | exact h | exact ⟨h.1, hp _ _ h.2⟩
theorem okC_ext {SH SH2 : xSH} {M : xM} {a : Nat} {sh : Nat × Nat} (hp : ∀ (a : Nat) (sh : Nat × Nat), SH[a]? = some sh → SH2[a]? = some sh) (h : okC SH M a sh) : okC SH2 M a sh := by
  obtain ⟨t, n⟩ := sh
  unfold okC at h ⊢
  dsimp only at h ⊢
  split at h
  · intro k hk
    have h1 := h k hk
    revert h1
    cases xfld n k with
    | mk kd r =>
      match kd with
      | 0 => exact id
      | 1 => exact id
      | kd + 2 => exact fun h1 => ⟨h1.1, hp _ _ h1.2⟩
  · exact h
  · exact fun j hj => okV_ext hp (h j hj)
  · exact fun j hj => okV_ext hp (h j hj)
  · trivial
  · trivial
  · exact h
def gxs (G : xG) (n q : Nat) : xG := (fun k => if k < n then G.1 k else q + (k - n), G.2)
def mnM (M : xM) (n N : Nat) : xM := fun b j => if b = (n : Int) then (if 0 ≤ j ∧ j < (N : Int) then (n : Int) + 1 + j else 0) else M b j
theorem gxs_lt {G : xG} {n q k : Nat} (h : k < n) : (gxs G n q).1 k = G.1 k := if_pos h
theorem gxs_ge {G : xG} {n q k : Nat} (h : n ≤ k) : (gxs G n q).1 k = q + (k - n) := if_neg (by omega)
theorem mnM_ne {M : xM} {n N : Nat} {b j : Int} (h : ¬ b = (n : Int)) : mnM M n N b j = M b j := if_neg h
theorem mnM_in {M : xM} {n N j : Nat} (h : j < N) : mnM M n N (n : Int) (j : Int) = (n : Int) + 1 + j := by
  unfold mnM
  rw [if_pos rfl, if_pos ⟨by omega, by omega⟩]
theorem mnM_out {M : xM} {n N j : Nat} (h : ¬ j < N) : mnM M n N (n : Int) (j : Int) = 0 := by
  unfold mnM
  rw [if_pos rfl, if_neg (by omega)]
def mnS (SH : xSH) (N : Nat) : xSH := SH ++ (7, N) :: List.replicate N (4, 17)
theorem mnS_len {SH : xSH} {N : Nat} : (mnS SH N).length = SH.length + 1 + N := by
  unfold mnS
  rw [List.length_append, List.length_cons, List.length_replicate]
  omega
theorem mnS_lt {SH : xSH} {N : Nat} (a : Nat) (sh : Nat × Nat) (h : SH[a]? = some sh) : (mnS SH N)[a]? = some sh := by
  unfold mnS
  rw [List.getElem?_append_left (lt_of_at h)]
  exact h
theorem mnS_at {SH : xSH} {N : Nat} : (mnS SH N)[SH.length]? = some (7, N) := by
  unfold mnS
  rw [List.getElem?_append_right (Nat.le_refl _), Nat.sub_self]
  rfl
theorem mnS_row {SH : xSH} {N j : Nat} (h : j < N) : (mnS SH N)[SH.length + 1 + j]? = some (4, 17) := by
  unfold mnS
  rw [List.getElem?_append_right (by omega), show SH.length + 1 + j - SH.length = j + 1 by omega, List.getElem?_cons_succ, List.getElem?_replicate, if_pos h]
theorem mnS_inv {SH : xSH} {N b : Nat} {sh : Nat × Nat} (h : (mnS SH N)[b]? = some sh) : (b < SH.length ∧ SH[b]? = some sh) ∨ (b = SH.length ∧ sh = (7, N)) ∨ ∃ j : Nat, j < N ∧ b = SH.length + 1 + j ∧ sh = (4, 17) := by
  have hl := lt_of_at h
  rw [mnS_len] at hl
  by_cases h1 : b < SH.length
  · unfold mnS at h
    rw [List.getElem?_append_left h1] at h
    exact Or.inl ⟨h1, h⟩
  · by_cases h2 : b = SH.length
    · rw [h2, mnS_at] at h
      exact Or.inr (Or.inl ⟨h2, (Option.some.inj h).symm⟩)
    · have h3 : b = SH.length + 1 + (b - SH.length - 1) := by omega
      rw [h3, mnS_row (by omega)] at h
      exact Or.inr (Or.inr ⟨b - SH.length - 1, by omega, h3, (Option.some.inj h).symm⟩)
theorem xDyn_mn {SH : xSH} {G : xG} {cA : Nat → ClassId} {D : va_G} {A : Nat → Prop} {Ls : Nat} {xs : Nat → Int32} {H0 : Heap} {M : xM} {H F : Heap} {locs : List Loc} {N : Nat} (h : xDyn SH G cA D A Ls xs H0 M H locs) (hO : okO SH M) (hz : ∀ b : Nat, SH.length ≤ b → ∀ j : Nat, M b j = 0) (hA : ∀ q, H0.size ≤ q → A q)
    (f1 : F.size = H.size + 1 + N) (f2 : F[H.size]? = some (vp_cell (cA 7) (N, .inr (.inr (.inr (.inr fun j : Nat => if j < N then some (H.size + 1 + j) else none)))))) (hold : ∀ x : Nat, x < H.size → F[x]? = H[x]?) (hrow : ∀ j : Nat, j < N → F[H.size + 1 + j]? = some (vp_cell (cA 4) (17, .inr (.inl fun _ => 0)))) :
    xDyn (mnS SH N) (gxs G SH.length H.size) cA D A Ls xs H0 (mnM M SH.length N) F locs ∧ okO (mnS SH N) (mnM M SH.length N) := by
  have hne : ∀ b : Nat, ¬ b = SH.length → ∀ j : Int, mnM M SH.length N b j = M b j := fun b e j => mnM_ne (nat_cast_ne e)
  have hP0 : va_P D xcl (xW SH G cA M) F := h.1.kept (fun k x hx => hold x.1 ((h.1 k x hx).lt))
  have hlt : ∀ b : Nat, b < SH.length → G.1 b < H.size := by
    intro b hb
    obtain ⟨s1, h1⟩ : ∃ s1, SH[b]? = some s1 := ⟨_, List.getElem?_eq_getElem hb⟩
    exact (h.1 b _ (xW_at h1)).lt
  have hcell : ∀ (b : Nat) (sh : Nat × Nat), SH[b]? = some sh → xcell (gxs G SH.length H.size) cA (mnM M SH.length N) b sh = xcell G cA M b sh := by
    intro b sh hb
    rw [← xcell_ag (G2 := gxs G SH.length H.size) hb h.2.2.2.1 hO (fun k hk => gxs_lt hk)]
    have e1 : ¬ b = SH.length := by have := lt_of_at hb; omega
    unfold xcell xfl xfv cfl cfv
    simp only [hne b e1]
  have key : ∀ (b : Nat) (x : Nat × va_E), (xW (mnS SH N) (gxs G SH.length H.size) cA (mnM M SH.length N))[b]? = some x → ∃ sh : Nat × Nat, (mnS SH N)[b]? = some sh ∧ x = ((gxs G SH.length H.size).1 b, xcell (gxs G SH.length H.size) cA (mnM M SH.length N) b sh) := by
    intro b x hx
    have hb : b < (mnS SH N).length := by
      have h9 := lt_of_at hx
      unfold xW at h9
      rw [List.length_mapIdx] at h9
      exact h9
    obtain ⟨s2, h2⟩ : ∃ s2, (mnS SH N)[b]? = some s2 := ⟨_, List.getElem?_eq_getElem hb⟩
    rw [xW_at h2] at hx
    exact ⟨s2, h2, (Option.some.inj hx).symm⟩
  have hS := h.2.2.1
  refine ⟨⟨fun b x hx => ?_, ⟨fun i j x y hx hy hxy => ?_, fun b x hx => ?_⟩, ⟨by rw [f1]; have := hS.1; omega, fun x h1 h2 => (hold x (Nat.lt_of_lt_of_le h1 hS.1)).trans (hS.2.1 x h1 h2), hS.2.2⟩, fun b sh hb => ?_, ?_⟩, ⟨fun b n2 hb j => ?_, fun b n2 hb j => ?_⟩⟩
  · obtain ⟨sh, hs, rfl⟩ := key b x hx
    rcases mnS_inv hs with ⟨h1, h2⟩ | ⟨h1, h2⟩ | ⟨j, h1, h2, h3⟩
    · rw [hcell b sh h2, gxs_lt h1]
      exact hP0 b _ (xW_at h2)
    · subst h2
      rw [h1, gxs_ge (Nat.le_refl _), Nat.sub_self]
      have e : vp_cell (cA 7) (N, .inr (.inr (.inr (.inr fun j : Nat => if j < N then some (H.size + 1 + j) else none)))) = vp_cell (cA 7) (N, .inr (.inr (.inr (.inr fun j : Nat => some ((gxs G SH.length H.size).1 (mnM M SH.length N SH.length j).toNat))))) := by
        refine vp_same (fun j hj => ?_)
        rw [if_pos hj, mnM_in hj, show ((SH.length : Int) + 1 + (j : Int)).toNat = SH.length + 1 + j by omega, gxs_ge (by omega), show H.size + (SH.length + 1 + j - SH.length) = H.size + 1 + j by omega]
      show F[H.size + 0]? = some (vp_cell (cA 7) (N, .inr (.inr (.inr (.inr fun j : Nat => some ((gxs G SH.length H.size).1 (mnM M SH.length N SH.length j).toNat))))))
      rw [← e]
      exact f2
    · subst h3
      rw [gxs_ge (by omega)]
      have e : (fun i : Nat => Int64.ofInt (mnM M SH.length N b i)) = fun _ => (0 : Int64) := by
        funext i
        rw [hne b (by omega), hz b (by omega) i]
        rfl
      show F[H.size + (b - SH.length)]? = some (vp_cell (cA 4) (17, .inr (.inl fun i : Nat => Int64.ofInt (mnM M SH.length N b i))))
      rw [e, show H.size + (b - SH.length) = H.size + 1 + j by omega]
      exact hrow j h1
  · obtain ⟨s1, h1, rfl⟩ := key i x hx
    obtain ⟨s2, h2, rfl⟩ := key j y hy
    have hxy : (gxs G SH.length H.size).1 i = (gxs G SH.length H.size).1 j := hxy
    by_cases hi : i < SH.length <;> by_cases hj : j < SH.length
    · rw [gxs_lt hi, gxs_lt hj] at hxy
      obtain ⟨t1, g1⟩ : ∃ t1, SH[i]? = some t1 := ⟨_, List.getElem?_eq_getElem hi⟩
      obtain ⟨t2, g2⟩ : ∃ t2, SH[j]? = some t2 := ⟨_, List.getElem?_eq_getElem hj⟩
      exact h.2.1.1 i j _ _ (xW_at g1) (xW_at g2) hxy
    · rw [gxs_lt hi, gxs_ge (by omega)] at hxy
      have := hlt i hi
      omega
    · rw [gxs_lt hj, gxs_ge (by omega)] at hxy
      have := hlt j hj
      omega
    · rw [gxs_ge (by omega), gxs_ge (by omega)] at hxy
      omega
  · obtain ⟨s1, h1, rfl⟩ := key b x hx
    show A ((gxs G SH.length H.size).1 b)
    by_cases hb : b < SH.length
    · rw [gxs_lt hb]
      obtain ⟨t1, g1⟩ : ∃ t1, SH[b]? = some t1 := ⟨_, List.getElem?_eq_getElem hb⟩
      exact h.2.1.2 b (G.1 b, xcell G cA M b t1) (xW_at g1)
    · rw [gxs_ge (by omega)]
      exact hA _ (by have := hS.1; omega)
  · rcases mnS_inv hb with ⟨h1, h2⟩ | ⟨h1, h2⟩ | ⟨j, h1, h2, h3⟩
    · have h5 := okC_ext (SH2 := mnS SH N) mnS_lt (h.2.2.2.1 b sh h2)
      unfold okC at h5 ⊢
      simp only [hne b (by omega)]
      exact h5
    · subst h2
      rw [h1]
      unfold okC
      dsimp only
      intro j hj
      rw [mnM_in hj]
      refine ⟨by show 0 ≤ (SH.length : Int) + 1 + j; omega, ?_⟩
      show (mnS SH N)[((SH.length : Int) + 1 + (j : Int)).toNat]? = some (4, 17)
      rw [show ((SH.length : Int) + 1 + (j : Int)).toNat = SH.length + 1 + j by omega]
      exact mnS_row hj
    · subst h3
      unfold okC
      dsimp only
      intro i _
      rw [hne b (by omega), hz b (by omega) i]
      exact ⟨by decide, by decide⟩
  · have e : ∀ j : Int, mnM M SH.length N (-1) j = M (-1) j := fun j => mnM_ne (by omega)
    have h5 := h.2.2.2.2
    unfold xScr at h5 ⊢
    simp only [e]
    exact h5
  · rw [mnS_len]
    rcases hb with hb | hb <;> rcases mnS_inv hb with ⟨h1, h2⟩ | ⟨h1, h2⟩ | ⟨i, h1, h2, h3⟩
    · rw [hne b (by omega)]; have := hO.1 b n2 (Or.inl h2) j; omega
    · cases h2
    · cases h3
    · rw [hne b (by omega)]; have := hO.1 b n2 (Or.inr h2) j; omega
    · cases h2
    · cases h3
  · rw [mnS_len]
    rcases hb with hb | hb <;> rcases mnS_inv hb with ⟨h1, h2⟩ | ⟨h1, h2⟩ | ⟨i, h1, h2, h3⟩
    · rw [hne b (by omega)]; have := hO.2 b n2 (Or.inl h2) j; omega
    · cases h2
    · cases h3
    · rw [hne b (by omega)]; have := hO.2 b n2 (Or.inr h2) j; omega
    · rw [h1]
      by_cases hj : j < N
      · rw [mnM_in hj]; omega
      · rw [mnM_out hj]; omega
    · cases h3
end
section
/-! CONSTRUCTION: new long[n][17]. -/
theorem mn_outer (c : ClassId) (N h0 : Nat) (i : Nat) : Jvm.Free.Multi.outerC c N h0 i = arrV c N (fun j => va_rf (if j < i then some (h0 + 1 + j) else none)) := by
  induction i with
  | zero =>
    show ({ cls := c, slots := Array.replicate N .null, vm := .none } : Cell) = _
    rw [arrV_new]
    exact congrArg (arrV c N) (funext fun j => by rw [if_neg (by omega)]; rfl)
  | succ i ih =>
    show (Jvm.Free.Multi.outerC c N h0 i).setSlot i (.ref (h0 + 1 + i)) = _
    rw [ih, arrV_store]
    refine congrArg (arrV c N) (funext fun j => ?_)
    unfold updV
    by_cases e : j = i
    · subst e
      rw [if_pos rfl, if_pos (by omega)]
      rfl
    · rw [if_neg e]
      show va_rf (if j < i then some (h0 + 1 + j) else none) = _
      by_cases h : j < i
      · rw [if_pos h, if_pos (by omega)]
      · rw [if_neg h, if_neg (by omega)]
section CRows3
variable {p : Program} {l : Launch} {e : Env} {R : Room} {s : State} {m : MethodId} {args : Array Value} {below : List Frame} {meth : Method} {c : Code} {H : Heap} {locs : List Loc} {cells slots : Nat} {Q : State → Prop}
variable {cc : ByteArray} {pc : Nat} {ls : Array Slot} {rest : List Value} {SH : xSH} {G : xG} {cA : Nat → ClassId} {D : va_G} {A : Nat → Prop} {Ls : Nat} {xs : Nat → Int32} {M : xM}
theorem c_mna (hx : p.tables.exec = Jvm.exec) (hb : c.code = cc) (hst : xStat G cA D A Ls xs s) (hDy : xDyn SH G cA D A Ls xs s.heap M H locs) (hO : okO SH M) (hz : ∀ b : Nat, SH.length ≤ b → ∀ j : Nat, M b j = 0) (hA : ∀ q, s.heap.size ≤ q → A q) {own : String} {index N : Nat} {n k : Int32} (hown : s.vm.findClass own = some m.cls) (hclink : (Cond.classLink own index ("[" ++ (FieldType.array .long).toString)).before args s = true) (hover : (Cond.arrayOver (.array .long)).before args s = true) (harr : (Cond.arrayClass .long).before args s = true) (hn : ¬ n < 0) (hk : ¬ k < 0) (hN : n.toNatClampNeg = N) (hK : k.toNatClampNeg = 17) (hb1 : N * 4 ≤ 536870912) (hcells : cells + (1 + N) ≤ R.cells) (hslots : slots + (N + N * 17) ≤ R.slots) (hd : decode cc pc = .ok (.multianewarray index 2, 4))
    (kk : ∀ (q : Nat) (H1 : Heap), xDyn (mnS SH N) (gxs G SH.length q) cA D A Ls xs s.heap (mnM M SH.length N) H1 locs → okO (mnS SH N) (mnM M SH.length N) → W p l e R s m args below meth c H1 locs (cells + 1 + N) (slots + N + N * 17) Q (F0 m (pc + 4) ls (.ref q :: rest))) : W p l e R s m args below meth c H locs cells slots Q (F0 m pc ls (.int k :: .int n :: rest)) := by
  subst hN
  intro T hT Xs
  obtain ⟨vm₁, c0, comp, -, fA, fC, -, -, X', step⟩ := Jvm.Stand.multianewarray2F Xs hx (ty := .long) hown hclink hover harr (g := F0 m pc ls (.int k :: .int n :: rest)) rfl (by rw [hb]; exact hd) rfl hn hk hb1 (by rw [hK]; decide) (by rw [hK]; decide) rfl rfl hcells (by rw [hK]; exact hslots)
  have e7 : c0 = cA 7 := Option.some.inj (fA.symm.trans (hst.1.2 4 (cA 7, .array .long) rfl).2)
  have e4 : comp = cA 4 := Option.some.inj (fC.symm.trans (hst.1.2 1 (cA 4, .long) rfl).2)
  subst e7
  subst e4
  rw [hK] at X' step
  generalize hF : Jvm.Free.Multi.fill (T.setVm vm₁) (cA 7) (cA 4) n.toNatClampNeg 17 (defaultValue .long) n.toNatClampNeg = F at X' step
  have hTh : (T.setVm vm₁).heap = H := hT
  obtain ⟨f1, f2, -, -⟩ := Jvm.Free.Multi.fill_facts (T.setVm vm₁) (cA 7) (cA 4) n.toNatClampNeg 17 (defaultValue .long) n.toNatClampNeg
  rw [hF, hTh] at f1 f2
  rw [mn_outer] at f2
  have hold : ∀ x : Nat, x < H.size → F.heap[x]? = H[x]? := fun x hx9 => by
    have h9 := Jvm.Free.Multi.fill_old (T.setVm vm₁) (cA 7) (cA 4) n.toNatClampNeg 17 (defaultValue .long) (a := x) (by rw [hTh]; exact hx9) n.toNatClampNeg
    rw [hF, hTh] at h9
    exact h9
  have hrow : ∀ j : Nat, j < n.toNatClampNeg → F.heap[H.size + 1 + j]? = some (vp_cell (cA 4) (17, .inr (.inl fun _ => 0))) := fun j hj => by
    have h9 := Jvm.Free.Multi.fill_inner (T.setVm vm₁) (cA 7) (cA 4) n.toNatClampNeg 17 (defaultValue .long) n.toNatClampNeg j hj
    rw [hF, hTh] at h9
    rw [h9, vp_cell_l, ← arrV_new]
    rfl
  obtain ⟨g1, g2⟩ := xDyn_mn hDy hO hz hA f1 f2 hold hrow
  obtain ⟨t, a1, b1⟩ := kk H.size F.heap g1 g2 F rfl X'
  refine ⟨t, step t ?_, b1⟩
  have e9 : T.heap.size = H.size := by rw [hT]
  rw [e9]
  exact a1
end CRows3
end
section
/-! CONSTRUCTION: the constructors' table, code, checks. -/
def kts : List (MethodName × Nat × Nat × Nat × Nat) := [(⟨"RouteStrides$Costs", "<init>", "()V"⟩, 1, 407, 136, 406),
  (⟨"RouteStrides$Fewest", "<init>", "()V"⟩, 1, 371, 135, 370),
  (⟨"RouteStrides$Kinds", "<init>", "()V"⟩, 1, 354, 134, 353),
  (⟨"RouteStrides$Nodes", "<init>", "()V"⟩, 1, 283, 133, 282),
  (⟨"RouteStrides$Pieces", "<init>", "()V"⟩, 1, 422, 137, 421),
  (⟨"RouteStrides$Spans", "<init>", "()V"⟩, 1, 233, 132, 232),
  (⟨"RouteStrides$Table", "<init>", "()V"⟩, 1, 179, 131, 178),
  (⟨"RouteStrides$Tape", "<init>", "()V"⟩, 1, 158, 130, 157),
  (⟨"RouteStrides", "<init>", "()V"⟩, 2, 150, 129, 149),
  (⟨"RouteStridesModel", "<init>", "()V"⟩, 1, 1141, 138, 1140)]
def kC0 : List xE := [(0, .aload_n 0, 1, 0, 0, 0, 0, 0, []),
  (1, .invokespecial 3, 3, 10, 0, 0, 0, 0, [408]),
  (4, .aload_n 0, 1, 0, 0, 0, 0, 0, []),
  (5, .bipush 33, 2, 0, 0, 0, 0, 33, []),
  (7, .newarray .long, 2, 4, 0, 0, 0, 0, []),
  (9, .putfield 9, 3, 0, 0, 0, 0, 0, [0]),
  (12, .aload_n 0, 1, 0, 0, 0, 0, 0, []),
  (13, .bipush 33, 2, 0, 0, 0, 0, 33, []),
  (15, .bipush 17, 2, 0, 0, 0, 0, 17, []),
  (17, .multianewarray 15 2, 4, 0, 0, 0, 0, 0, [409]),
  (21, .putfield 17, 3, 0, 1, 0, 0, 0, [1])]
def kC1 : List xE := [(0, .aload_n 0, 1, 0, 0, 0, 0, 0, []),
  (1, .invokespecial 3, 3, 10, 0, 0, 0, 0, [372]),
  (4, .aload_n 0, 1, 0, 0, 0, 0, 0, []),
  (5, .bipush 60, 2, 0, 0, 0, 0, 60, []),
  (7, .newarray .long, 2, 4, 0, 0, 0, 0, []),
  (9, .putfield 9, 3, 1, 1, 0, 0, 0, [4]),
  (12, .aload_n 0, 1, 0, 0, 0, 0, 0, []),
  (13, .bipush 60, 2, 0, 0, 0, 0, 60, []),
  (15, .newarray .int, 2, 3, 0, 0, 0, 0, []),
  (17, .putfield 15, 3, 1, 2, 0, 0, 0, [5]),
  (20, .aload_n 0, 1, 0, 0, 0, 0, 0, []),
  (21, .bipush 60, 2, 0, 0, 0, 0, 60, []),
  (23, .newarray .int, 2, 3, 0, 0, 0, 0, []),
  (25, .putfield 19, 3, 1, 3, 0, 0, 0, [6]),
  (28, .aload_n 0, 1, 0, 0, 0, 0, 0, []),
  (29, .sipush 3723, 3, 0, 0, 0, 0, 3723, []),
  (32, .newarray .long, 2, 4, 0, 0, 0, 0, []),
  (34, .putfield 22, 3, 1, 4, 0, 0, 0, [7]),
  (37, .aload_n 0, 1, 0, 0, 0, 0, 0, []),
  (38, .sipush 3723, 3, 0, 0, 0, 0, 3723, []),
  (41, .newarray .int, 2, 3, 0, 0, 0, 0, []),
  (43, .putfield 25, 3, 1, 5, 0, 0, 0, [8])]
def kC2 : List xE := [(0, .aload_n 0, 1, 0, 0, 0, 0, 0, []),
  (1, .invokespecial 3, 3, 10, 0, 0, 0, 0, [355]),
  (4, .aload_n 0, 1, 0, 0, 0, 0, 0, []),
  (5, .sipush 901, 3, 0, 0, 0, 0, 901, []),
  (8, .newarray .int, 2, 3, 0, 0, 0, 0, []),
  (10, .putfield 9, 3, 2, 0, 0, 0, 0, [13]),
  (13, .aload_n 0, 1, 0, 0, 0, 0, 0, []),
  (14, .bipush 64, 2, 0, 0, 0, 0, 64, []),
  (16, .newarray .int, 2, 3, 0, 0, 0, 0, []),
  (18, .putfield 15, 3, 2, 1, 0, 0, 0, [14]),
  (21, .aload_n 0, 1, 0, 0, 0, 0, 0, []),
  (22, .sipush 901, 3, 0, 0, 0, 0, 901, []),
  (25, .newarray .int, 2, 3, 0, 0, 0, 0, []),
  (27, .putfield 18, 3, 2, 2, 0, 0, 0, [15])]
def kC3 : List xE := [(0, .aload_n 0, 1, 0, 0, 0, 0, 0, []),
  (1, .invokespecial 3, 3, 10, 0, 0, 0, 0, [284]),
  (4, .aload_n 0, 1, 0, 0, 0, 0, 0, []),
  (5, .sipush 901, 3, 0, 0, 0, 0, 901, []),
  (8, .newarray .long, 2, 4, 0, 0, 0, 0, []),
  (10, .putfield 9, 3, 3, 1, 0, 0, 0, [19]),
  (13, .aload_n 0, 1, 0, 0, 0, 0, 0, []),
  (14, .sipush 901, 3, 0, 0, 0, 0, 901, []),
  (17, .newarray .int, 2, 3, 0, 0, 0, 0, []),
  (19, .putfield 15, 3, 3, 2, 0, 0, 0, [20]),
  (22, .aload_n 0, 1, 0, 0, 0, 0, 0, []),
  (23, .sipush 901, 3, 0, 0, 0, 0, 901, []),
  (26, .newarray .long, 2, 4, 0, 0, 0, 0, []),
  (28, .putfield 19, 3, 3, 3, 0, 0, 0, [21]),
  (31, .aload_n 0, 1, 0, 0, 0, 0, 0, []),
  (32, .sipush 901, 3, 0, 0, 0, 0, 901, []),
  (35, .newarray .long, 2, 4, 0, 0, 0, 0, []),
  (37, .putfield 22, 3, 3, 4, 0, 0, 0, [22]),
  (40, .aload_n 0, 1, 0, 0, 0, 0, 0, []),
  (41, .sipush 901, 3, 0, 0, 0, 0, 901, []),
  (44, .newarray .int, 2, 3, 0, 0, 0, 0, []),
  (46, .putfield 25, 3, 3, 5, 0, 0, 0, [23]),
  (49, .aload_n 0, 1, 0, 0, 0, 0, 0, []),
  (50, .sipush 901, 3, 0, 0, 0, 0, 901, []),
  (53, .newarray .int, 2, 3, 0, 0, 0, 0, []),
  (55, .putfield 28, 3, 3, 6, 0, 0, 0, [24]),
  (58, .aload_n 0, 1, 0, 0, 0, 0, 0, []),
  (59, .bipush 16, 2, 0, 0, 0, 0, 16, []),
  (61, .newarray .int, 2, 3, 0, 0, 0, 0, []),
  (63, .putfield 31, 3, 3, 7, 0, 0, 0, [25]),
  (66, .aload_n 0, 1, 0, 0, 0, 0, 0, []),
  (67, .sipush 902, 3, 0, 0, 0, 0, 902, []),
  (70, .newarray .int, 2, 3, 0, 0, 0, 0, []),
  (72, .putfield 34, 3, 3, 8, 0, 0, 0, [26]),
  (75, .aload_n 0, 1, 0, 0, 0, 0, 0, []),
  (76, .sipush 2837, 3, 0, 0, 0, 0, 2837, []),
  (79, .newarray .int, 2, 3, 0, 0, 0, 0, []),
  (81, .putfield 37, 3, 3, 9, 0, 0, 0, [27]),
  (84, .aload_n 0, 1, 0, 0, 0, 0, 0, []),
  (85, .sipush 2837, 3, 0, 0, 0, 0, 2837, []),
  (88, .newarray .int, 2, 3, 0, 0, 0, 0, []),
  (90, .putfield 40, 3, 3, 10, 0, 0, 0, [28]),
  (93, .aload_n 0, 1, 0, 0, 0, 0, 0, []),
  (94, .sipush 901, 3, 0, 0, 0, 0, 901, []),
  (97, .newarray .int, 2, 3, 0, 0, 0, 0, []),
  (99, .putfield 43, 3, 3, 11, 0, 0, 0, [29]),
  (102, .aload_n 0, 1, 0, 0, 0, 0, 0, []),
  (103, .bipush 17, 2, 0, 0, 0, 0, 17, []),
  (105, .newarray .int, 2, 3, 0, 0, 0, 0, []),
  (107, .putfield 46, 3, 3, 12, 0, 0, 0, [30]),
  (110, .aload_n 0, 1, 0, 0, 0, 0, 0, []),
  (111, .bipush 17, 2, 0, 0, 0, 0, 17, []),
  (113, .newarray .int, 2, 3, 0, 0, 0, 0, []),
  (115, .putfield 49, 3, 3, 13, 0, 0, 0, [31]),
  (118, .aload_n 0, 1, 0, 0, 0, 0, 0, []),
  (119, .bipush 16, 2, 0, 0, 0, 0, 16, []),
  (121, .newarray .int, 2, 3, 0, 0, 0, 0, []),
  (123, .putfield 52, 3, 3, 14, 0, 0, 0, [32])]
def kC4 : List xE := [(0, .aload_n 0, 1, 0, 0, 0, 0, 0, []),
  (1, .invokespecial 3, 3, 10, 0, 0, 0, 0, [423]),
  (4, .aload_n 0, 1, 0, 0, 0, 0, 0, []),
  (5, .bipush 64, 2, 0, 0, 0, 0, 64, []),
  (7, .newarray .long, 2, 4, 0, 0, 0, 0, []),
  (9, .putfield 9, 3, 4, 1, 0, 0, 0, [42]),
  (12, .aload_n 0, 1, 0, 0, 0, 0, 0, []),
  (13, .bipush 64, 2, 0, 0, 0, 0, 64, []),
  (15, .newarray .int, 2, 3, 0, 0, 0, 0, []),
  (17, .putfield 15, 3, 4, 2, 0, 0, 0, [43])]
def kC5 : List xE := [(0, .aload_n 0, 1, 0, 0, 0, 0, 0, []),
  (1, .invokespecial 3, 3, 10, 0, 0, 0, 0, [234]),
  (4, .aload_n 0, 1, 0, 0, 0, 0, 0, []),
  (5, .bipush 121, 2, 0, 0, 0, 0, 121, []),
  (7, .newarray .long, 2, 4, 0, 0, 0, 0, []),
  (9, .putfield 9, 3, 5, 1, 0, 0, 0, [45]),
  (12, .aload_n 0, 1, 0, 0, 0, 0, 0, []),
  (13, .bipush 121, 2, 0, 0, 0, 0, 121, []),
  (15, .newarray .long, 2, 4, 0, 0, 0, 0, []),
  (17, .putfield 15, 3, 5, 2, 0, 0, 0, [46]),
  (20, .aload_n 0, 1, 0, 0, 0, 0, 0, []),
  (21, .bipush 121, 2, 0, 0, 0, 0, 121, []),
  (23, .newarray .int, 2, 3, 0, 0, 0, 0, []),
  (25, .putfield 18, 3, 5, 3, 0, 0, 0, [47]),
  (28, .aload_n 0, 1, 0, 0, 0, 0, 0, []),
  (29, .bipush 121, 2, 0, 0, 0, 0, 121, []),
  (31, .newarray .int, 2, 3, 0, 0, 0, 0, []),
  (33, .putfield 22, 3, 5, 4, 0, 0, 0, [48]),
  (36, .aload_n 0, 1, 0, 0, 0, 0, 0, []),
  (37, .bipush 60, 2, 0, 0, 0, 0, 60, []),
  (39, .newarray .long, 2, 4, 0, 0, 0, 0, []),
  (41, .putfield 25, 3, 5, 5, 0, 0, 0, [49]),
  (44, .aload_n 0, 1, 0, 0, 0, 0, 0, []),
  (45, .bipush 60, 2, 0, 0, 0, 0, 60, []),
  (47, .newarray .int, 2, 3, 0, 0, 0, 0, []),
  (49, .putfield 28, 3, 5, 6, 0, 0, 0, [50]),
  (52, .aload_n 0, 1, 0, 0, 0, 0, 0, []),
  (53, .bipush 33, 2, 0, 0, 0, 0, 33, []),
  (55, .newarray .int, 2, 3, 0, 0, 0, 0, []),
  (57, .putfield 31, 3, 5, 7, 0, 0, 0, [51])]
def kC6 : List xE := [(0, .aload_n 0, 1, 0, 0, 0, 0, 0, []),
  (1, .invokespecial 3, 3, 10, 0, 0, 0, 0, [180]),
  (4, .aload_n 0, 1, 0, 0, 0, 0, 0, []),
  (5, .bipush 60, 2, 0, 0, 0, 0, 60, []),
  (7, .newarray .long, 2, 4, 0, 0, 0, 0, []),
  (9, .putfield 9, 3, 6, 1, 0, 0, 0, [60]),
  (12, .aload_n 0, 1, 0, 0, 0, 0, 0, []),
  (13, .bipush 60, 2, 0, 0, 0, 0, 60, []),
  (15, .newarray .int, 2, 3, 0, 0, 0, 0, []),
  (17, .putfield 15, 3, 6, 2, 0, 0, 0, [61]),
  (20, .aload_n 0, 1, 0, 0, 0, 0, 0, []),
  (21, .bipush 60, 2, 0, 0, 0, 0, 60, []),
  (23, .newarray .int, 2, 3, 0, 0, 0, 0, []),
  (25, .putfield 19, 3, 6, 3, 0, 0, 0, [62]),
  (28, .aload_n 0, 1, 0, 0, 0, 0, 0, []),
  (29, .bipush 60, 2, 0, 0, 0, 0, 60, []),
  (31, .newarray .int, 2, 3, 0, 0, 0, 0, []),
  (33, .putfield 22, 3, 6, 4, 0, 0, 0, [63]),
  (36, .aload_n 0, 1, 0, 0, 0, 0, 0, []),
  (37, .bipush 60, 2, 0, 0, 0, 0, 60, []),
  (39, .newarray .int, 2, 3, 0, 0, 0, 0, []),
  (41, .putfield 25, 3, 6, 5, 0, 0, 0, [64]),
  (44, .aload_n 0, 1, 0, 0, 0, 0, 0, []),
  (45, .bipush 16, 2, 0, 0, 0, 0, 16, []),
  (47, .newarray .int, 2, 3, 0, 0, 0, 0, []),
  (49, .putfield 28, 3, 6, 7, 0, 0, 0, [65]),
  (52, .aload_n 0, 1, 0, 0, 0, 0, 0, []),
  (53, .invokevirtual 31, 3, 53, 0, 0, 0, 0, [44])]
def kC7 : List xE := [(0, .aload_n 0, 1, 0, 0, 0, 0, 0, []),
  (1, .invokespecial 3, 3, 10, 0, 0, 0, 0, [159]),
  (4, .aload_n 0, 1, 0, 0, 0, 0, 0, []),
  (5, .sipush 400, 3, 0, 0, 0, 0, 400, []),
  (8, .newarray .int, 2, 3, 0, 0, 0, 0, []),
  (10, .putfield 11, 3, 7, 1, 0, 0, 0, [72])]
def kC8 : List xE := [(0, .aload_n 0, 1, 0, 0, 0, 0, 0, []),
  (1, .invokespecial 3, 3, 10, 0, 0, 0, 0, [151]),
  (4, .aload_n 0, 1, 0, 0, 0, 0, 0, []),
  (5, .new 9, 3, 7, 4, 0, 0, 0, [154, 155, 130]),
  (8, .dup, 1, 0, 0, 0, 0, 0, []),
  (9, .invokespecial 11, 3, 7, 1, 0, 0, 0, [156]),
  (12, .putfield 12, 3, 8, 0, 0, 0, 0, [78]),
  (15, .aload_n 0, 1, 0, 0, 0, 0, 0, []),
  (16, .new 16, 3, 6, 8, 0, 0, 0, [175, 176, 131]),
  (19, .dup, 1, 0, 0, 0, 0, 0, []),
  (20, .invokespecial 18, 3, 6, 0, 0, 0, 0, [177]),
  (23, .putfield 19, 3, 8, 1, 0, 0, 0, [79]),
  (26, .aload_n 0, 1, 0, 0, 0, 0, 0, []),
  (27, .new 16, 3, 6, 8, 0, 0, 0, [175, 176, 131]),
  (30, .dup, 1, 0, 0, 0, 0, 0, []),
  (31, .invokespecial 18, 3, 6, 0, 0, 0, 0, [177]),
  (34, .putfield 23, 3, 8, 2, 0, 0, 0, [80]),
  (37, .aload_n 0, 1, 0, 0, 0, 0, 0, []),
  (38, .bipush 10, 2, 0, 0, 0, 0, 10, []),
  (40, .anewarray 16, 3, 0, 0, 0, 0, 0, [175]),
  (43, .putfield 26, 3, 8, 3, 0, 0, 0, [81]),
  (46, .aload_n 0, 1, 0, 0, 0, 0, 0, []),
  (47, .iconst 2, 1, 0, 0, 0, 0, 2, []),
  (48, .anewarray 16, 3, 0, 0, 0, 0, 0, [175]),
  (51, .putfield 30, 3, 8, 4, 0, 0, 0, [82]),
  (54, .aload_n 0, 1, 0, 0, 0, 0, 0, []),
  (55, .new 33, 3, 5, 10, 0, 0, 0, [229, 230, 132]),
  (58, .dup, 1, 0, 0, 0, 0, 0, []),
  (59, .invokespecial 35, 3, 5, 1, 0, 0, 0, [231]),
  (62, .putfield 36, 3, 8, 9, 0, 0, 0, [83]),
  (65, .aload_n 0, 1, 0, 0, 0, 0, 0, []),
  (66, .new 33, 3, 5, 10, 0, 0, 0, [229, 230, 132]),
  (69, .dup, 1, 0, 0, 0, 0, 0, []),
  (70, .invokespecial 35, 3, 5, 1, 0, 0, 0, [231]),
  (73, .putfield 40, 3, 8, 10, 0, 0, 0, [84]),
  (76, .aload_n 0, 1, 0, 0, 0, 0, 0, []),
  (77, .new 43, 3, 3, 18, 0, 0, 0, [279, 280, 133]),
  (80, .dup, 1, 0, 0, 0, 0, 0, []),
  (81, .invokespecial 45, 3, 3, 1, 0, 0, 0, [281]),
  (84, .putfield 46, 3, 8, 11, 0, 0, 0, [85]),
  (87, .aload_n 0, 1, 0, 0, 0, 0, 0, []),
  (88, .new 43, 3, 3, 18, 0, 0, 0, [279, 280, 133]),
  (91, .dup, 1, 0, 0, 0, 0, 0, []),
  (92, .invokespecial 45, 3, 3, 1, 0, 0, 0, [281]),
  (95, .putfield 50, 3, 8, 12, 0, 0, 0, [86]),
  (98, .aload_n 0, 1, 0, 0, 0, 0, 0, []),
  (99, .new 53, 3, 2, 3, 0, 0, 0, [350, 351, 134]),
  (102, .dup, 1, 0, 0, 0, 0, 0, []),
  (103, .invokespecial 55, 3, 2, 1, 0, 0, 0, [352]),
  (106, .putfield 56, 3, 8, 13, 0, 0, 0, [87]),
  (109, .aload_n 0, 1, 0, 0, 0, 0, 0, []),
  (110, .new 60, 3, 1, 7, 0, 0, 0, [367, 368, 135]),
  (113, .dup, 1, 0, 0, 0, 0, 0, []),
  (114, .invokespecial 62, 3, 1, 1, 0, 0, 0, [369]),
  (117, .putfield 63, 3, 8, 14, 0, 0, 0, [88]),
  (120, .aload_n 0, 1, 0, 0, 0, 0, 0, []),
  (121, .new 67, 3, 0, 2, 0, 0, 0, [403, 404, 136]),
  (124, .dup, 1, 0, 0, 0, 0, 0, []),
  (125, .invokespecial 69, 3, 0, 1, 0, 0, 0, [405]),
  (128, .putfield 70, 3, 8, 15, 0, 0, 0, [89]),
  (131, .aload_n 0, 1, 0, 0, 0, 0, 0, []),
  (132, .new 74, 3, 4, 3, 0, 0, 0, [418, 419, 137]),
  (135, .dup, 1, 0, 0, 0, 0, 0, []),
  (136, .invokespecial 76, 3, 4, 1, 0, 0, 0, [420]),
  (139, .putfield 77, 3, 8, 16, 0, 0, 0, [90]),
  (142, .iconst 0, 1, 0, 0, 0, 0, 0, []),
  (143, .istore_n 1, 1, 1, 0, 0, 0, 0, []),
  (144, .iload_n 1, 1, 1, 0, 0, 0, 0, []),
  (145, .bipush 10, 2, 0, 0, 0, 0, 10, []),
  (147, .if_icmp .ge 22, 3, 169, 0, 0, 0, 0, []),
  (150, .aload_n 0, 1, 0, 0, 0, 0, 0, []),
  (151, .getfield 26, 3, 8, 3, 0, 0, 0, [81]),
  (154, .iload_n 1, 1, 1, 0, 0, 0, 0, []),
  (155, .new 16, 3, 6, 8, 0, 0, 0, [175, 176, 131]),
  (158, .dup, 1, 0, 0, 0, 0, 0, []),
  (159, .invokespecial 18, 3, 6, 0, 0, 0, 0, [177]),
  (162, .aastore, 1, 0, 0, 0, 0, 0, []),
  (163, .iinc 1 1, 3, 1, 0, 0, 0, 1, []),
  (166, .goto (-22), 3, 144, 0, 0, 0, 0, []),
  (169, .iconst 0, 1, 0, 0, 0, 0, 0, []),
  (170, .istore_n 1, 1, 1, 0, 0, 0, 0, []),
  (171, .iload_n 1, 1, 1, 0, 0, 0, 0, []),
  (172, .iconst 2, 1, 0, 0, 0, 0, 2, []),
  (173, .if_icmp .ge 22, 3, 195, 0, 0, 0, 0, []),
  (176, .aload_n 0, 1, 0, 0, 0, 0, 0, []),
  (177, .getfield 30, 3, 8, 4, 0, 0, 0, [82]),
  (180, .iload_n 1, 1, 1, 0, 0, 0, 0, []),
  (181, .new 16, 3, 6, 8, 0, 0, 0, [175, 176, 131]),
  (184, .dup, 1, 0, 0, 0, 0, 0, []),
  (185, .invokespecial 18, 3, 6, 0, 0, 0, 0, [177]),
  (188, .aastore, 1, 0, 0, 0, 0, 0, []),
  (189, .iinc 1 1, 3, 1, 0, 0, 0, 1, []),
  (192, .goto (-21), 3, 171, 0, 0, 0, 0, [])]
def kC9 : List xE := [(0, .aload_n 0, 1, 0, 0, 0, 0, 0, []),
  (1, .invokespecial 1, 3, 10, 0, 0, 0, 0, [1142]),
  (4, .aload_n 0, 1, 0, 0, 0, 0, 0, []),
  (5, .sipush 259, 3, 0, 0, 0, 0, 259, []),
  (8, .newarray .int, 2, 3, 0, 0, 0, 0, []),
  (10, .putfield 7, 3, 9, 0, 0, 0, 0, [125]),
  (13, .aload_n 0, 1, 0, 0, 0, 0, 0, []),
  (14, .sipush 2590, 3, 0, 0, 0, 0, 2590, []),
  (17, .newarray .int, 2, 3, 0, 0, 0, 0, []),
  (19, .putfield 13, 3, 9, 1, 0, 0, 0, [126]),
  (22, .aload_n 0, 1, 0, 0, 0, 0, 0, []),
  (23, .sipush 518, 3, 0, 0, 0, 0, 518, []),
  (26, .newarray .int, 2, 3, 0, 0, 0, 0, []),
  (28, .putfield 16, 3, 9, 3, 0, 0, 0, [127]),
  (31, .aload_n 0, 1, 0, 0, 0, 0, 0, []),
  (32, .iconst 2, 1, 0, 0, 0, 0, 2, []),
  (33, .newarray .boolean, 2, 5, 0, 0, 0, 0, []),
  (35, .putfield 19, 3, 9, 4, 0, 0, 0, [128]),
  (38, .aload_n 0, 1, 0, 0, 0, 0, 0, []),
  (39, .iconst 2, 1, 0, 0, 0, 0, 2, []),
  (40, .newarray .int, 2, 3, 0, 0, 0, 0, []),
  (42, .putfield 23, 3, 9, 6, 0, 0, 0, [129]),
  (45, .aload_n 0, 1, 0, 0, 0, 0, 0, []),
  (46, .sipush 248, 3, 0, 0, 0, 0, 248, []),
  (49, .newarray .long, 2, 4, 0, 0, 0, 0, []),
  (51, .putfield 26, 3, 9, 7, 0, 0, 0, [130]),
  (54, .aload_n 0, 1, 0, 0, 0, 0, 0, []),
  (55, .sipush 248, 3, 0, 0, 0, 0, 248, []),
  (58, .newarray .int, 2, 3, 0, 0, 0, 0, []),
  (60, .putfield 30, 3, 9, 8, 0, 0, 0, [131]),
  (63, .aload_n 0, 1, 0, 0, 0, 0, 0, []),
  (64, .iconst 2, 1, 0, 0, 0, 0, 2, []),
  (65, .newarray .int, 2, 3, 0, 0, 0, 0, []),
  (67, .putfield 33, 3, 9, 9, 0, 0, 0, [132]),
  (70, .aload_n 0, 1, 0, 0, 0, 0, 0, []),
  (71, .bipush 32, 2, 0, 0, 0, 0, 32, []),
  (73, .newarray .int, 2, 3, 0, 0, 0, 0, []),
  (75, .putfield 36, 3, 9, 10, 0, 0, 0, [133]),
  (78, .aload_n 0, 1, 0, 0, 0, 0, 0, []),
  (79, .bipush 34, 2, 0, 0, 0, 0, 34, []),
  (81, .newarray .int, 2, 3, 0, 0, 0, 0, []),
  (83, .putfield 39, 3, 9, 11, 0, 0, 0, [134]),
  (86, .aload_n 0, 1, 0, 0, 0, 0, 0, []),
  (87, .bipush 124, 2, 0, 0, 0, 0, 124, []),
  (89, .newarray .long, 2, 4, 0, 0, 0, 0, []),
  (91, .putfield 42, 3, 9, 13, 0, 0, 0, [135]),
  (94, .aload_n 0, 1, 0, 0, 0, 0, 0, []),
  (95, .bipush 124, 2, 0, 0, 0, 0, 124, []),
  (97, .newarray .int, 2, 3, 0, 0, 0, 0, []),
  (99, .putfield 45, 3, 9, 14, 0, 0, 0, [136]),
  (102, .aload_n 0, 1, 0, 0, 0, 0, 0, []),
  (103, .sipush 2000, 3, 0, 0, 0, 0, 2000, []),
  (106, .newarray .int, 2, 3, 0, 0, 0, 0, []),
  (108, .putfield 48, 3, 9, 16, 0, 0, 0, [137]),
  (111, .aload_n 0, 1, 0, 0, 0, 0, 0, []),
  (112, .sipush 2000, 3, 0, 0, 0, 0, 2000, []),
  (115, .newarray .long, 2, 4, 0, 0, 0, 0, []),
  (117, .putfield 51, 3, 9, 17, 0, 0, 0, [138]),
  (120, .aload_n 0, 1, 0, 0, 0, 0, 0, []),
  (121, .bipush 18, 2, 0, 0, 0, 0, 18, []),
  (123, .newarray .int, 2, 3, 0, 0, 0, 0, []),
  (125, .putfield 54, 3, 9, 18, 0, 0, 0, [139]),
  (128, .aload_n 0, 1, 0, 0, 0, 0, 0, []),
  (129, .bipush 64, 2, 0, 0, 0, 0, 64, []),
  (131, .newarray .int, 2, 3, 0, 0, 0, 0, []),
  (133, .putfield 57, 3, 9, 23, 0, 0, 0, [140]),
  (136, .aload_n 0, 1, 0, 0, 0, 0, 0, []),
  (137, .bipush 64, 2, 0, 0, 0, 0, 64, []),
  (139, .newarray .int, 2, 3, 0, 0, 0, 0, []),
  (141, .putfield 60, 3, 9, 27, 0, 0, 0, [141]),
  (144, .aload_n 0, 1, 0, 0, 0, 0, 0, []),
  (145, .sipush 259, 3, 0, 0, 0, 0, 259, []),
  (148, .newarray .int, 2, 3, 0, 0, 0, 0, []),
  (150, .putfield 63, 3, 9, 28, 0, 0, 0, [142]),
  (153, .aload_n 0, 1, 0, 0, 0, 0, 0, []),
  (154, .bipush 64, 2, 0, 0, 0, 0, 64, []),
  (156, .newarray .long, 2, 4, 0, 0, 0, 0, []),
  (158, .putfield 66, 3, 9, 30, 0, 0, 0, [143]),
  (161, .aload_n 0, 1, 0, 0, 0, 0, 0, []),
  (162, .bipush 64, 2, 0, 0, 0, 0, 64, []),
  (164, .newarray .int, 2, 3, 0, 0, 0, 0, []),
  (166, .putfield 69, 3, 9, 31, 0, 0, 0, [144]),
  (169, .aload_n 0, 1, 0, 0, 0, 0, 0, []),
  (170, .bipush 24, 2, 0, 0, 0, 0, 24, []),
  (172, .newarray .int, 2, 3, 0, 0, 0, 0, []),
  (174, .putfield 72, 3, 9, 33, 0, 0, 0, [145]),
  (177, .aload_n 0, 1, 0, 0, 0, 0, 0, []),
  (178, .sipush 400, 3, 0, 0, 0, 0, 400, []),
  (181, .newarray .byte, 2, 12, 0, 0, 0, 0, []),
  (183, .putfield 75, 3, 9, 34, 0, 0, 0, [146]),
  (186, .aload_n 0, 1, 0, 0, 0, 0, 0, []),
  (187, .bipush 64, 2, 0, 0, 0, 0, 64, []),
  (189, .newarray .long, 2, 4, 0, 0, 0, 0, []),
  (191, .putfield 79, 3, 9, 41, 0, 0, 0, [147]),
  (194, .aload_n 0, 1, 0, 0, 0, 0, 0, []),
  (195, .bipush 64, 2, 0, 0, 0, 0, 64, []),
  (197, .newarray .int, 2, 3, 0, 0, 0, 0, []),
  (199, .putfield 82, 3, 9, 42, 0, 0, 0, [148]),
  (202, .aload_n 0, 1, 0, 0, 0, 0, 0, []),
  (203, .bipush 64, 2, 0, 0, 0, 0, 64, []),
  (205, .newarray .int, 2, 3, 0, 0, 0, 0, []),
  (207, .putfield 85, 3, 9, 43, 0, 0, 0, [149]),
  (210, .aload_n 0, 1, 0, 0, 0, 0, 0, []),
  (211, .sipush 2000, 3, 0, 0, 0, 0, 2000, []),
  (214, .newarray .int, 2, 3, 0, 0, 0, 0, []),
  (216, .putfield 88, 3, 9, 44, 0, 0, 0, [150]),
  (219, .aload_n 0, 1, 0, 0, 0, 0, 0, []),
  (220, .ldc 91, 2, 0, 0, 0, 0, 128000, [1143]),
  (222, .newarray .int, 2, 3, 0, 0, 0, 0, []),
  (224, .putfield 92, 3, 9, 45, 0, 0, 0, [151]),
  (227, .aload_n 0, 1, 0, 0, 0, 0, 0, []),
  (228, .sipush 128, 3, 0, 0, 0, 0, 128, []),
  (231, .newarray .long, 2, 4, 0, 0, 0, 0, []),
  (233, .putfield 95, 3, 9, 47, 0, 0, 0, [152]),
  (236, .aload_n 0, 1, 0, 0, 0, 0, 0, []),
  (237, .sipush 128, 3, 0, 0, 0, 0, 128, []),
  (240, .newarray .int, 2, 3, 0, 0, 0, 0, []),
  (242, .putfield 98, 3, 9, 48, 0, 0, 0, [153]),
  (245, .aload_n 0, 1, 0, 0, 0, 0, 0, []),
  (246, .sipush 128, 3, 0, 0, 0, 0, 128, []),
  (249, .newarray .int, 2, 3, 0, 0, 0, 0, []),
  (251, .putfield 101, 3, 9, 49, 0, 0, 0, [154]),
  (254, .aload_n 0, 1, 0, 0, 0, 0, 0, []),
  (255, .bipush 33, 2, 0, 0, 0, 0, 33, []),
  (257, .newarray .int, 2, 3, 0, 0, 0, 0, []),
  (259, .putfield 104, 3, 9, 50, 0, 0, 0, [155]),
  (262, .aload_n 0, 1, 0, 0, 0, 0, 0, []),
  (263, .sipush 561, 3, 0, 0, 0, 0, 561, []),
  (266, .newarray .int, 2, 3, 0, 0, 0, 0, []),
  (268, .putfield 107, 3, 9, 51, 0, 0, 0, [156])]
def kCs : List (List xE) := [kC0, kC1, kC2, kC3, kC4, kC5, kC6, kC7, kC8, kC9]
def kC (k : Nat) : List xE := kCs.getD k []
def kR (k : Nat) : Nat := [24, 46, 30, 126, 20, 60, 56, 13, 195, 285].getD k 0
def kL (k : Nat) : Nat := match kts[k]? with
  | some q => q.2.1
  | none => 0
def refT (ty : FieldType) : Bool := match ty with
  | .object _ => true
  | .array _ => true
  | _ => false
def rfB (ci k : Nat) : Bool := match xcl[ci]? with
  | some (_, T, _) => match parseFieldDescriptor (T k).2.2.1 with
    | some ty => match (xfld ci k).1 with
      | 0 => true
      | 1 => true
      | _ => refT ty
    | none => false
  | none => false
theorem rf_all : ((List.range 10).all fun ci => (List.range (xfs.getD ci []).length).all (rfB ci)) = true := by decide +kernel
def kokB (k : Nat) : Bool := match kts[k]? with
  | some (y, ml, pc, pi, pk) => decide (xcn k = y.cls) && ((match lw_tbl[pc]? with
    | some (.code y2 _ m2 r2) => decide (y2 = y) && (decide (m2 = ml) && decide (r2 = none))
    | _ => false) && (decide (lw_tbl[pi]? = some (Cond.initialized y.cls)) && (decide (lw_tbl[pk]? = some (Cond.instanceMethod y)) && (plainName y.cls && (decide (y.cls ≠ "java/lang/invoke/MethodHandle") && (decide (y.cls ≠ "java/lang/invoke/VarHandle") && (decide ((parseMethodDescriptor y.desc).map (fun d => d.parameters.length) = some 0) && (decide (y.name = "<init>") && (Nat.ble ml 4 && Nat.ble 1 ml)))))))))
  | none => false
theorem kok_all : (List.range 10).all kokB = true := by decide +kernel
def kchkI (own ml : Nat) (e : xE) : Bool := match e with
  | (pc, ins, len, a1, a2, _, _, c, ts) => match ins with
    | .iconst n => Nat.beq len 1 && (decide (n = c) && r32 c)
    | .bipush n => Nat.beq len 2 && (decide ((Int8.ofInt n).toInt32 = Int32.ofInt c) && r32 c)
    | .sipush n => Nat.beq len 3 && (decide ((Int16.ofInt n).toInt32 = Int32.ofInt c) && r32 c)
    | .ldc idx => Nat.beq len 2 && (r32 c && decide (lw_tbl[ts.headD 0]? = some (Cond.constant (xcn own) idx (Int32.ofInt c))))
    | .ldc_w idx => Nat.beq len 3 && (r32 c && decide (lw_tbl[ts.headD 0]? = some (Cond.constant (xcn own) idx (Int32.ofInt c))))
    | .iload_n n => Nat.beq len 1 && decide ((n : Nat) = a1)
    | .aload_n n => Nat.beq len 1 && decide ((n : Nat) = a1)
    | .istore_n n => Nat.beq len 1 && (decide ((n : Nat) = a1) && Nat.blt a1 ml)
    | .iinc n v => Nat.beq len 3 && (Nat.beq n a1 && decide (v = c))
    | .goto off => Nat.beq len 3 && decide ((pc : Int) + off = (a1 : Int))
    | .if_icmp o off => Nat.beq len 3 && (decide (o = .ge) && decide ((pc : Int) + off = (a1 : Int)))
    | .dup => Nat.beq len 1
    | .aastore => Nat.beq len 1
    | .new idx => Nat.beq len 3 && (match xcl[a1]? with
      | some (C, _, N) => Nat.beq N a2 && (decide (lw_tbl[ts.getD 0 0]? = some (Cond.classLink (xcn own) idx C)) && (decide (lw_tbl[ts.getD 1 0]? = some (Cond.instantiable C N)) && decide (lw_tbl[ts.getD 2 0]? = some (Cond.initialized C))))
      | none => false)
    | .newarray at' => Nat.beq len 2 && (match a1 with
      | 3 => decide (at' = .int)
      | 4 => decide (at' = .long)
      | 5 => decide (at' = .boolean)
      | 12 => decide (at' = .byte)
      | _ => false)
    | .anewarray idx => Nat.beq len 3 && decide (lw_tbl[ts.headD 0]? = some (Cond.classLink (xcn own) idx "RouteStrides$Table"))
    | .multianewarray idx n => Nat.beq len 4 && (decide ((n : Nat) = 2) && decide (lw_tbl[ts.headD 0]? = some (Cond.classLink (xcn own) idx ("[" ++ (FieldType.array .long).toString))))
    | .getfield idx => Nat.beq len 3 && ((match fls[ts.headD 0]? with
        | some (o, i, ci, k, _) => Nat.beq o own && (Nat.beq i idx && (Nat.beq ci a1 && Nat.beq k a2))
        | none => false) && Nat.ble 2 (xfld a1 a2).1)
    | .putfield idx => Nat.beq len 3 && ((match fls[ts.headD 0]? with
        | some (o, i, ci, k, _) => Nat.beq o own && (Nat.beq i idx && (Nat.beq ci a1 && Nat.beq k a2))
        | none => false) && (Nat.ble 2 (xfld a1 a2).1 && (Nat.beq a1 own && (match xcl[a1]? with
        | some (_, T, _) => (T a2).2.2.2
        | none => false))))
    | .invokespecial idx => Nat.beq len 3 && (match Nat.beq a1 10 with
      | true => decide (lw_tbl[ts.headD 0]? = some (Cond.methodLink (xcn own) idx Lib.objectInit))
      | false => match kts[a1]? with
        | some q => match a2 with
          | 0 => decide (lw_tbl[ts.headD 0]? = some (Cond.methodLink (xcn own) idx q.1))
          | _ => decide (lw_tbl[ts.headD 0]? = some (Cond.methodLinkNest (xcn own) idx q.1 "RouteStrides"))
        | none => false)
    | .invokevirtual idx => Nat.beq len 3 && (Nat.beq a1 kTable_takeFirstStrides && (match mls[ts.headD 0]? with
        | some (o, i, q, nest, _) => Nat.beq o own && (Nat.beq i idx && (Nat.beq q a1 && Nat.beq nest 0))
        | none => false))
    | _ => false
def kchk (k : Nat) : Bool := match kts[k]? with
  | some (_, ml, pc, _) => (kC k).all (fun e => kchkI k ml e && decide (decode (xbyt pc) e.1 = .ok (e.2.1, e.2.2.1)))
  | none => false
theorem kchk_all : (List.range 10).all kchk = true := by decide +kernel
theorem kret_all : ((List.range 10).all fun k => match kts[k]? with
  | some q => decide (decode (xbyt q.2.2.1) (kR k) = .ok (.return_, 1))
  | none => false) = true := by decide +kernel
theorem w_ai : Cond.arrayClass .int ∈ xTT := tt_mem (i := 174) (by decide +kernel) rfl
theorem w_al : Cond.arrayClass .long ∈ xTT := tt_mem (i := 227) (by decide +kernel) rfl
theorem w_ab : Cond.arrayClass .byte ∈ xTT := tt_mem (i := 663) (by decide +kernel) rfl
theorem w_az : Cond.arrayClass .boolean ∈ xTT := tt_mem (i := 1352) (by decide +kernel) rfl
theorem w_ov : Cond.arrayOver (.object "RouteStrides$Table") ∈ lw_tbl := List.mem_of_getElem? (i := 228) (by decide +kernel)
theorem w_ol : Cond.arrayOver (.array .long) ∈ lw_tbl := List.mem_of_getElem? (i := 410) (by decide +kernel)
theorem w_oi : Cond.instanceMethod Lib.objectInit ∈ xTT := tt_mem (i := 152) (by decide +kernel) rfl
theorem w_oc : Cond.code Lib.objectInit ⟨#[0xb1]⟩ 1 none ∈ xTT := tt_mem (i := 153) (by decide +kernel) rfl
end
section
/-! CONSTRUCTION'S RUN: one interpreter on plain data. -/
abbrev cO : Type := Nat × Nat × Nat × Int
abbrev cS : Type := Nat × List xV × List xV × xSH × List cO × Nat × Nat
abbrev rV (a : Nat) : xV := (15, 0, (a : Int))
def cM (B : xM) : List cO → xM
  | [] => B
  | (o, a, k, v) :: P => match o with
    | 0 => up (cM B P) a k v
    | 1 => mnM (cM B P) a k
    | _ => dn (cM B P) a
def rd : List cO → Nat → Nat → Int
  | [], _, _ => 0
  | (o, a, k, v) :: P, b, j => match Nat.beq b a with
    | false => rd P b j
    | true => match o with
      | 0 => match Nat.beq j k with
        | true => v
        | false => rd P b j
      | 1 => match Nat.ble k j with
        | true => 0
        | false => (a : Int) + 1 + (j : Int)
      | _ => if rd P b j = 0 then 0 else rd P b j - 1
theorem beq_f {a b : Nat} (h : Nat.beq a b = false) : ¬ a = b := fun e => by
  subst e
  rw [Nat.beq_refl] at h
  cases h
theorem rd_ok {B : xM} (hB : ∀ b j : Nat, B b j = 0) : ∀ (P : List cO) (b j : Nat), cM B P b j = rd P b j
  | [], b, j => hB b j
  | (o, a, k, v) :: P, b, j => by
    have ih := rd_ok hB P b j
    unfold cM rd
    cases hb : Nat.beq b a with
    | false =>
      have e : ¬ (b : Int) = (a : Int) := nat_cast_ne (beq_f hb)
      match o with
      | 0 => show up (cM B P) a k v b j = rd P b j; rw [up_ne e]; exact ih
      | 1 => show mnM (cM B P) a k b j = rd P b j; rw [mnM_ne e]; exact ih
      | o + 2 => show dn (cM B P) a b j = rd P b j; rw [dn_ne e]; exact ih
    | true =>
      have e := Nat.eq_of_beq_eq_true hb
      subst e
      match o with
      | 0 =>
        show up (cM B P) b k v b j = match Nat.beq j k with
          | true => v
          | false => rd P b j
        cases hj : Nat.beq j k with
        | true =>
          have e := Nat.eq_of_beq_eq_true hj
          subst e
          exact up_same
        | false => rw [up_off (nat_cast_ne (beq_f hj))]; exact ih
      | 1 =>
        show mnM (cM B P) b k b j = match Nat.ble k j with
          | true => 0
          | false => (b : Int) + 1 + (j : Int)
        cases hj : Nat.ble k j with
        | true =>
          have := Nat.le_of_ble_eq_true hj
          exact mnM_out (by omega)
        | false =>
          have : ¬ k ≤ j := fun q => by rw [Nat.ble_eq_true_of_le q] at hj; cases hj
          exact mnM_in (by omega)
      | o + 2 =>
        show dn (cM B P) b b j = if rd P b j = 0 then 0 else rd P b j - 1
        rw [dn_at, ih]
theorem rd_out : ∀ {P : List cO} {n b j : Nat}, (∀ q ∈ P, q.2.1 < n) → n ≤ b → rd P b j = 0
  | [], _, _, _, _, _ => rfl
  | (o, a, k, v) :: P, n, b, j, h, hb => by
    have h1 : a < n := h _ List.mem_cons_self
    have e : Nat.beq b a = false := by
      cases hq : Nat.beq b a with
      | false => rfl
      | true => have := Nat.eq_of_beq_eq_true hq; omega
    unfold rd
    rw [e]
    exact rd_out (fun q hq => h q (List.mem_cons_of_mem _ hq)) hb
def cV (n : Nat) (v : xV) : Prop := match v.1 with
  | 0 => i32 v.2.2
  | 15 => 0 ≤ v.2.2 ∧ v.2.2 < (n : Int)
  | _ => False
def cAg (n : Nat) (G G2 : xG) : Prop := G2.2 = G.2 ∧ ∀ i : Nat, i < n → G2.1 i = G.1 i
theorem cAg_rf {n : Nat} {G : xG} : cAg n G G := ⟨rfl, fun _ _ => rfl⟩
theorem cAg_tr {n n1 : Nat} {G G1 G2 : xG} (h : cAg n G G1) (h1 : cAg n1 G1 G2) (hn : n ≤ n1) : cAg n G G2 := ⟨h1.1.trans h.1, fun i hi => (h1.2 i (by omega)).trans (h.2 i hi)⟩
theorem cAg_gx {G : xG} {n q : Nat} : cAg n G (gx G n q) := ⟨rfl, fun _ hi => gx_lt hi⟩
theorem cAg_gxs {G : xG} {n q : Nat} : cAg n G (gxs G n q) := ⟨rfl, fun _ hi => gxs_lt hi⟩
theorem cV_r {n : Nat} {v : xV} (h : cV n v) (h1 : Nat.beq v.1 15 = true) : ∃ (z a : Nat), v = (15, z, (a : Int)) ∧ a < n := by
  obtain ⟨t, z, x⟩ := v
  cases Nat.eq_of_beq_eq_true h1
  have h : 0 ≤ x ∧ x < (n : Int) := h
  exact ⟨z, x.toNat, by rw [Int.toNat_of_nonneg h.1], by omega⟩
theorem cV_i {n : Nat} {v : xV} (h : cV n v) (h1 : Nat.beq v.1 0 = true) : ∃ (z : Nat) (x : Int), v = (0, z, x) ∧ i32 x := by
  obtain ⟨t, z, x⟩ := v
  cases Nat.eq_of_beq_eq_true h1
  exact ⟨z, x, rfl, h⟩
theorem cV_le {n n2 : Nat} {v : xV} (h : cV n v) (hn : n ≤ n2) : cV n2 v := by
  obtain ⟨t, z, x⟩ := v
  unfold cV at h ⊢
  dsimp only at h ⊢
  split at h
  · exact h
  · exact ⟨h.1, by omega⟩
  · exact h
theorem cV_9 {n : Nat} {v : xV} (h : cV n v) : ¬ v.1 = 9 := by
  obtain ⟨t, z, x⟩ := v
  intro e
  have e : t = 9 := e
  subst e
  exact h
theorem cV_1 {n : Nat} {v : xV} (h : cV n v) : two v = false := by
  obtain ⟨t, z, x⟩ := v
  unfold cV at h
  dsimp only at h
  split at h
  · rfl
  · rfl
  · exact h.elim
theorem mk_g {n : Nat} {G G2 : xG} {v : xV} (h : cV n v) (hg : cAg n G G2) : mkV G2 v = mkV G v := by
  obtain ⟨t, z, x⟩ := v
  unfold cV at h
  dsimp only at h
  split at h
  · rfl
  · show Value.ref (G2.1 x.toNat) = Value.ref (G.1 x.toNat)
    rw [hg.2 _ (by omega)]
  · exact h.elim
theorem map_g {n : Nat} {G G2 : xG} {S : List xV} (h : ∀ v ∈ S, cV n v) (hg : cAg n G G2) : S.map (mkV G2) = S.map (mkV G) := List.map_congr_left fun v hv => mk_g (h v hv) hg
theorem LR_g {n : Nat} {G G2 : xG} {ls : Array Slot} {L : List xV} (h : ∀ v ∈ L, v.1 = 9 ∨ cV n v) (hg : cAg n G G2) (hL : LR G ls L) : LR G2 ls L := by
  refine ⟨hL.1, hL.2.1, fun i v hi h9 => ?_⟩
  rcases h v (List.mem_of_getElem? hi) with q | q
  · exact absurd q h9
  · rw [mk_g q hg]; exact hL.2.2 i v hi h9
theorem xStat_g {G G2 : xG} {cA : Nat → ClassId} {D : va_G} {A : Nat → Prop} {Ls : Nat} {xs : Nat → Int32} {s : State} (e : G2.2 = G.2) (h : xStat G cA D A Ls xs s) : xStat G2 cA D A Ls xs s := by
  unfold xStat xStr at h ⊢
  rw [e]
  exact h
def chkDone (SH : xSH) (P : List cO) (a ci : Nat) : Bool := (List.range (xfs.getD ci []).length).all fun k => match (xfld ci k).1 with
  | 0 => r32 (rd P a k)
  | 1 => decide (-9223372036854775808 ≤ rd P a k) && decide (rd P a k < 9223372036854775808)
  | t => decide (0 ≤ (a : Int) + (xfld ci k).2.2) && (decide (rd P a k = (a : Int) + (xfld ci k).2.2 + 1) && decide ((SH.set a (2, ci))[((a : Int) + (xfld ci k).2.2).toNat]? = some (t, (xfld ci k).2.1)))
def cDone (SH : xSH) (P : List cO) (a : Nat) : xSH := match SH[a]? with
  | some (t, ci) => match Nat.beq t 13 && chkDone SH P a ci with
    | true => SH.set a (2, ci)
    | false => SH
  | none => SH
theorem cDone_len (SH : xSH) (P : List cO) (a : Nat) : (cDone SH P a).length = SH.length := by
  unfold cDone
  split
  · split
    · exact List.length_set
    · rfl
  · rfl
theorem cDone_ok {SH : xSH} {G : xG} {cA : Nat → ClassId} {D : va_G} {A : Nat → Prop} {Ls : Nat} {xs : Nat → Int32} {H0 : Heap} {B : xM} (hB : ∀ b j : Nat, B b j = 0) {P : List cO} {H : Heap} {locs : List Loc} (a : Nat) (h : xDyn SH G cA D A Ls xs H0 (cM B P) H locs) (hO : okO SH (cM B P)) : xDyn (cDone SH P a) G cA D A Ls xs H0 (cM B P) H locs ∧ okO (cDone SH P a) (cM B P) := by
  unfold cDone
  split
  · rename_i t ci ha
    split
    · rename_i hc
      rw [Bool.and_eq_true] at hc
      cases Nat.eq_of_beq_eq_true hc.1
      refine c_done h hO ha (fun k hk => ?_)
      have h1 := List.all_eq_true.mp hc.2 k (List.mem_range.mpr hk)
      rw [rd_ok hB]
      revert h1
      cases xfld ci k with
      | mk kd r =>
        match kd with
        | 0 => exact fun h1 => r32_i h1
        | 1 =>
          intro h1
          simp only [Bool.and_eq_true, decide_eq_true_eq] at h1
          exact h1
        | kd + 2 =>
          intro h1
          simp only [Bool.and_eq_true, decide_eq_true_eq] at h1
          exact h1
    · exact ⟨h, hO⟩
  · exact ⟨h, hO⟩
/-- the first strides of a table -/
def tfO (t : Nat) : List cO := [(0, t + 6, 7, 4), (0, t + 6, 6, 4), (0, t + 6, 5, 4), (0, t + 6, 4, 4), (0, t + 6, 3, 4), (0, t + 6, 2, 4), (0, t + 6, 1, 4), (0, t + 6, 0, 4), (0, t, 6, 8)]
def nin (x : Int) : Bool := decide (0 ≤ x) && decide (x < 200000)
def cRun : Nat → Nat → Nat → Nat → cS → Option cS
  | 0, _, _, _, _ => none
  | f + 1, d, k, stop, (pc, L, S, SH, P, cl, sl) => match Nat.beq pc stop with
    | true => some (pc, L, S, SH, P, cl, sl)
    | false => match (kC k).find? (fun e => Nat.beq e.1 pc) with
      | none => none
      | some (_, ins, len, a1, a2, _, _, c, _) => match ins with
        | .iconst _ => cRun f d k stop (pc + len, L, xI c :: S, SH, P, cl, sl)
        | .bipush _ => cRun f d k stop (pc + len, L, xI c :: S, SH, P, cl, sl)
        | .sipush _ => cRun f d k stop (pc + len, L, xI c :: S, SH, P, cl, sl)
        | .ldc _ => cRun f d k stop (pc + len, L, xI c :: S, SH, P, cl, sl)
        | .ldc_w _ => cRun f d k stop (pc + len, L, xI c :: S, SH, P, cl, sl)
        | .aload_n _ => match Nat.beq (L.getD a1 xU).1 15 with
          | true => cRun f d k stop (pc + len, L, L.getD a1 xU :: S, SH, P, cl, sl)
          | false => none
        | .iload_n _ => match Nat.beq (L.getD a1 xU).1 0 with
          | true => cRun f d k stop (pc + len, L, L.getD a1 xU :: S, SH, P, cl, sl)
          | false => none
        | .istore_n _ => match S with
          | v :: T => match Nat.beq v.1 0 with
            | true => cRun f d k stop (pc + len, st1 L a1 v, T, SH, P, cl, sl)
            | false => none
          | _ => none
        | .iinc _ _ => match Nat.beq (L.getD a1 xU).1 0 with
          | true => cRun f d k stop (pc + len, st1 L a1 (xI (z32 ((L.getD a1 xU).2.2 + c))), S, SH, P, cl, sl)
          | false => none
        | .dup => match S with
          | v :: T => cRun f d k stop (pc + len, L, v :: v :: T, SH, P, cl, sl)
          | _ => none
        | .goto _ => cRun f d k stop (a1, L, S, SH, P, cl, sl)
        | .if_icmp _ _ => match S with
          | y :: x :: T => match Nat.beq y.1 0 && Nat.beq x.1 0 with
            | true => match decide (y.2.2 ≤ x.2.2) with
              | true => cRun f d k stop (a1, L, T, SH, P, cl, sl)
              | false => cRun f d k stop (pc + len, L, T, SH, P, cl, sl)
            | false => none
          | _ => none
        | .new _ => cRun f d k stop (pc + len, L, rV SH.length :: S, SH ++ [(13, a1)], P, cl + 1, sl + a2)
        | .newarray _ => match S with
          | v :: T => match Nat.beq v.1 0 && nin v.2.2 with
            | true => cRun f d k stop (pc + len, L, rV SH.length :: T, SH ++ [(a1, v.2.2.toNat)], P, cl + 1, sl + v.2.2.toNat)
            | false => none
          | _ => none
        | .anewarray _ => match S with
          | v :: T => match Nat.beq v.1 0 && nin v.2.2 with
            | true => cRun f d k stop (pc + len, L, rV SH.length :: T, SH ++ [(14, v.2.2.toNat)], P, cl + 1, sl + v.2.2.toNat)
            | false => none
          | _ => none
        | .multianewarray _ _ => match S with
          | w :: v :: T => match Nat.beq v.1 0 && (nin v.2.2 && (Nat.beq w.1 0 && decide (w.2.2 = 17))) with
            | true => cRun f d k stop (pc + len, L, rV SH.length :: T, mnS SH v.2.2.toNat, (1, SH.length, v.2.2.toNat, 0) :: P, cl + 1 + v.2.2.toNat, sl + v.2.2.toNat + v.2.2.toNat * 17)
            | false => none
          | _ => none
        | .putfield _ => match S with
          | w :: v :: T => match Nat.beq w.1 15 && (Nat.beq v.1 15 && decide (SH[v.2.2.toNat]? = some (13, a1))) with
            | true => cRun f d k stop (pc + len, L, T, SH, (0, v.2.2.toNat, a2, w.2.2 + 1) :: P, cl, sl)
            | false => none
          | _ => none
        | .getfield _ => match S with
          | v :: T => match Nat.beq v.1 15 && (decide (SH[v.2.2.toNat]? = some (13, a1)) && !decide (rd P v.2.2.toNat a2 = 0)) with
            | true => cRun f d k stop (pc + len, L, rV (rd P v.2.2.toNat a2 - 1).toNat :: T, SH, P, cl, sl)
            | false => none
          | _ => none
        | .aastore => match S with
          | w :: i :: v :: T => match SH[v.2.2.toNat]? with
            | some (t, n) => match Nat.beq w.1 15 && (Nat.beq i.1 0 && (Nat.beq v.1 15 && (Nat.beq t 14 && (decide (SH[w.2.2.toNat]? = some (2, 6)) && (nin i.2.2 && Nat.blt i.2.2.toNat n))))) with
              | true => cRun f d k stop (pc + len, L, T, SH, (0, v.2.2.toNat, i.2.2.toNat, w.2.2 + 1) :: P, cl, sl)
              | false => none
            | none => none
          | _ => none
        | .invokespecial _ => match S with
          | v :: T => match Nat.beq v.1 15 && Nat.ble (wid T) 8 with
            | true => match Nat.beq a1 10 with
              | true => cRun f d k stop (pc + len, L, T, SH, P, cl, sl)
              | false => match d with
                | 0 => none
                | d1 + 1 => match cRun f d1 a1 (kR a1) (0, lay [v] (kL a1), [], SH, P, 0, 0) with
                  | some (_, _, [], SH1, P1, mc, ms) => cRun f (d1 + 1) k stop (pc + len, L, T, cDone SH1 P1 v.2.2.toNat, P1, cl + mc, sl + ms)
                  | _ => none
            | false => none
          | _ => none
        | .invokevirtual _ => match S with
          | v :: T => match Nat.beq v.1 15 && (Nat.ble (wid T) 8 && (decide ((cDone SH P v.2.2.toNat)[v.2.2.toNat]? = some (2, 6)) && decide ((cDone SH P v.2.2.toNat)[v.2.2.toNat + 6]? = some (3, 16)))) with
            | true => match d with
              | 0 => none
              | d1 + 1 => cRun f (d1 + 1) k stop (pc + len, L, T, cDone SH P v.2.2.toNat, tfO v.2.2.toNat ++ P, cl, sl)
            | false => none
          | _ => none
        | _ => none
set_option maxRecDepth 100000 in
def rsEnd : Option cS := cRun 400 2 8 (kR 8) (0, lay [rV 0] 2, [], [(13, 8)], [], 0, 0)
set_option maxRecDepth 100000 in
theorem rs_some : rsEnd.isSome = true := by decide +kernel
end
section
/-! CONSTRUCTION'S RUN: what the interpreter says, the machine does. -/
def kAux (s : State) : Prop := va_AO "RouteStrides$Table" s ∧ (Cond.arrayOver (.array .long)).before #[] s = true
theorem kAux_al {s U : State} (h : s.vm.Alike U.vm) (hs : kAux s) : kAux U := ⟨va_AO.moved h hs.1, Jvm.Stand.arrayOver_alikeB h hs.2⟩
def kCx (G : xG) (cA : Nat → ClassId) (D : va_G) (A : Nat → Prop) (Ls : Nat) (xs : Nat → Int32) (N0 k d : Nat) (p : Program) (R : Room) (s : State) (m : MethodId) (args : Array Value) (meth : Method) (c : Code) : Prop :=
  ∃ q, kts[k]? = some q ∧ p.tables.exec = Jvm.exec ∧ c.code = xbyt q.2.2.1 ∧ c.maxLocals = q.2.1 ∧ s.vm.findClass (xcn k) = some m.cls ∧ (∀ w ∈ xTT, w.before args s = true) ∧ xStat G cA D A Ls xs s ∧ d + 8 ≤ R.frames ∧ 60 * d + 200 ≤ R.locals ∧ meth.name = "<init>" ∧ kAux s ∧ N0 ≤ s.heap.size
def cIn (G : xG) (cA : Nat → ClassId) (D : va_G) (A : Nat → Prop) (Ls : Nat) (xs : Nat → Int32) (B : xM) (ml : Nat) (H0 H : Heap) (locs : List Loc) (ls : Array Slot) (L S : List xV) (SH : xSH) (P : List cO) : Prop :=
  xDyn SH G cA D A Ls xs H0 (cM B P) H locs ∧ okO SH (cM B P) ∧ (∀ q ∈ P, q.2.1 < SH.length) ∧ LR G ls L ∧ L.length = ml ∧ (∀ v ∈ L, v.1 = 9 ∨ cV SH.length v) ∧ ∀ v ∈ S, cV SH.length v
def kQc (SH : xSH) (G : xG) (cA : Nat → ClassId) (D : va_G) (A : Nat → Prop) (Ls : Nat) (xs : Nat → Int32) (n : Nat) (Qm : xM → Prop) : Array Value → State → Outcome → State → Prop := fun _ st o t =>
  (∃ (G2 : xG) (M : xM), o = .returned none ∧ cAg n G G2 ∧ Qm M ∧ va_P D xcl (xW SH G2 cA M) t.heap ∧ va_D A (xW SH G2 cA M) ∧ okM SH M ∧ xScr Ls xs M) ∧ va_F A st t
def kPre (SH : xSH) (G : xG) (cA : Nat → ClassId) (D : va_G) (A : Nat → Prop) (Ls : Nat) (xs : Nat → Int32) (N0 : Nat) (M : xM) (U : State) : Prop := xStat G cA D A Ls xs U ∧ kAux U ∧ N0 ≤ U.heap.size ∧ va_P D xcl (xW SH G cA M) U.heap
def kLk (nest own idx pos : Nat) (y : MethodName) : Prop := match nest with
  | 0 => lw_tbl[pos]? = some (Cond.methodLink (xcn own) idx y)
  | _ => lw_tbl[pos]? = some (Cond.methodLinkNest (xcn own) idx y "RouteStrides")
section KRows
variable {p : Program} {l : Launch} {e : Env} {R : Room} {s : State} {m : MethodId} {args : Array Value} {below : List Frame} {meth : Method} {c : Code} {H : Heap} {locs : List Loc} {cells slots : Nat} {Q : State → Prop}
variable {pc : Nat} {ls : Array Slot} {rest : List Value} {SH : xSH} {G : xG} {cA : Nat → ClassId} {D : va_G} {A : Nat → Prop} {Ls : Nat} {xs : Nat → Int32} {M : xM}
theorem k_back {SH2 : xSH} {st0 : List Value} {a : Array Value} {n mc ms : Nat} {Qm : xM → Prop}
    (hr : va_Run p l e R s m args below meth c H locs cells slots mc ms (F0 m pc ls st0) rest (kQc SH2 G cA D A Ls xs n Qm a) A) (hS : va_S A s.heap H locs)
    (kk : ∀ (G2 : xG) (N : xM) (H1 : Heap) (locs1 : List Loc), cAg n G G2 → Qm N → xDyn SH2 G2 cA D A Ls xs s.heap N H1 locs1 → W p l e R s m args below meth c H1 locs1 (cells + mc) (slots + ms) Q (F0 m (pc + 3) ls rest)) : W p l e R s m args below meth c H locs cells slots Q (F0 m pc ls st0) := by
  intro T hT X
  obtain ⟨v, st₀, t, T', L, h0, X', hL, e1, e2, ⟨⟨G2, N, hv, hg, hq, hP, hD, hM, hSc⟩, hz, hk⟩, st⟩ := hr T hT X
  cases hv
  rw [h0] at hz hk
  obtain ⟨t2, a1, b1⟩ := kk G2 N T'.heap (locs ++ L) hg hq ⟨by rw [e1]; exact hP, hD, ⟨Nat.le_trans hS.1 (by rw [e1]; exact hz), fun q h1 h2 => by rw [e1, hk q (Nat.lt_of_lt_of_le h1 hS.1) h2]; exact hS.2.1 q h1 h2, fun q hq => by
      rcases List.mem_append.mp hq with h | h
      · exact hS.2.2 q h
      · exact hL q h⟩, hM, hSc⟩ T' rfl X'
  exact ⟨t2, st t2 a1, b1⟩
/-- a constructor is called -/
theorem k_inv {own idx k nest pos d1 mc ms n b ml0 : Nat} {q : MethodName × Nat × Nat × Nat × Nat} {SH2 : xSH} {Qm : xM → Prop} {N0 : Nat} {cc : ByteArray} (hq : kts[k]? = some q) (hok : kokB k = true)
    (hMet : Met l q.1 (Cond.code q.1 (xbyt q.2.2.1) q.2.1 none :: xTT) { frames := d1 + 8, cells := mc, slots := ms, locals := 60 * d1 + 200 } (va_Pc [.ref b] (kPre SH G cA D A Ls xs N0 M)) (kQc SH2 G cA D A Ls xs n Qm) mc ms A)
    (hx : p.tables.exec = Jvm.exec) (hb : c.code = cc) (hml : c.maxLocals = ml0) (hown : s.vm.findClass (xcn own) = some m.cls) (hts : ∀ w ∈ xTT, w.before args s = true) (hst : xStat G cA D A Ls xs s) (hax : kAux s) (hN : N0 ≤ s.heap.size) (hDy : xDyn SH G cA D A Ls xs s.heap M H locs)
    (hlk : kLk nest own idx pos q.1)
    (hf : d1 + 1 + 8 ≤ R.frames) (hl : 60 * (d1 + 1) + 200 ≤ R.locals) (hc : cells + mc ≤ R.cells) (hsl : slots + ms ≤ R.slots) (hls : ls.size = ml0) (hw : (rest.map fun v => v.category).sum ≤ 8) (hd : decode cc pc = .ok (.invokespecial idx, 3))
    (kk : ∀ (G2 : xG) (N : xM) (H1 : Heap) (locs1 : List Loc), cAg n G G2 → Qm N → xDyn SH2 G2 cA D A Ls xs s.heap N H1 locs1 → W p l e R s m args below meth c H1 locs1 (cells + mc) (slots + ms) Q (F0 m (pc + 3) ls rest)) : W p l e R s m args below meth c H locs cells slots Q (F0 m pc ls (.ref b :: rest)) := by
  obtain ⟨y, ml, pc0, pi, pk⟩ := q
  simp only [kokB, hq, Bool.and_eq_true, decide_eq_true_eq] at hok
  obtain ⟨hcn, hcode, hini, hins, hpl, hn1, hn2, hnp, hnm, hm4, hm1⟩ := hok
  have hcm : Cond.code y (xbyt pc0) ml none ∈ xTT := by
    unfold xbyt
    cases hl2 : lw_tbl[pc0]? with
    | none => rw [hl2] at hcode; cases hcode
    | some w =>
      rw [hl2] at hcode
      cases w <;> first | (cases hcode; done) | skip
      simp only [Bool.and_eq_true, decide_eq_true_eq] at hcode
      obtain ⟨e1, e2, e3⟩ := hcode
      subst e1; subst e2; subst e3
      exact tt_mem hl2 rfl
  have hm4 := Nat.le_of_ble_eq_true hm4
  have hG : GoodIn xTT (Cond.code y (xbyt pc0) ml none :: xTT) := fun w hw => by
    rcases List.mem_cons.mp hw with e | e
    · rw [e]; exact tt_good _ hcm
    · exact tt_good w e
  have hbl : FrameBlind (va_Pc [.ref b] (kPre SH G cA D A Ls xs N0 M)) := fun a U g mk q => ⟨q.1, xStat_same rfl rfl q.2.1, kAux_al (Vm.Alike.refl _) q.2.2.1, q.2.2.2.1, q.2.2.2.2⟩
  have hpre : ∀ U : State, U.heap = H → s.WarmedH U.vm → kPre SH G cA D A Ls xs N0 M U := fun U hU hW => ⟨xStat_warm hW hU hDy.2.2.1 hst, kAux_al hW.alike hax, by rw [hU]; exact Nat.le_trans hN hDy.2.2.1.1, by rw [hU]; exact hDy.1⟩
  have hroom : d1 + 8 + 1 ≤ R.frames ∧ 8 + (ml + 11) + (60 * d1 + 200) ≤ R.locals := ⟨by omega, by omega⟩
  have hwid : 2 * (F0 m pc ls (.ref b :: rest)).monitorRoom + (rest.map fun v => v.category).sum ≤ 8 := by
    show 2 * 0 + _ ≤ 8
    omega
  cases nest with
  | zero =>
    have hCB : CallB R s args (xcn own) idx y (xbyt pc0) ml none (Cond.code y (xbyt pc0) ml none :: xTT) { frames := d1 + 8, cells := mc, slots := ms, locals := 60 * d1 + 200 } mc ms 0 := callB_of 0 hts hG rfl rfl rfl (hts _ (tt_mem hini rfl)) (hts _ (tt_mem hlk rfl)) ⟨hn1, hn2, hnp⟩ hroom
    exact k_back (va_runI (As := []) (rest := rest) (b := b) ⟨hx, hb, hml, hown, hts⟩ hMet ⟨hCB, hnm, hts _ (tt_mem hins rfl)⟩ ⟨hbl, fun U hU hW => ⟨rfl, hpre U hU hW⟩⟩ rfl rfl hls rfl hwid hd ⟨hc, hsl⟩) hDy.2.2.1 kk
  | succ nest =>
    have hCB : va_CN R s args (xcn own) idx y "RouteStrides" (xbyt pc0) ml none (Cond.code y (xbyt pc0) ml none :: xTT) { frames := d1 + 8, cells := mc, slots := ms, locals := 60 * d1 + 200 } mc ms 0 := va_cnB 0 hts hG rfl rfl rfl (hst.2.2.2.2.2 _ _ _ (List.mem_of_getElem? hlk)) (hts _ (tt_mem hini rfl)) ⟨hn1, hn2, hnp⟩ hroom
    exact k_back (va_runIN (As := []) (rest := rest) (b := b) ⟨hx, hb, hml, hown, hts⟩ hMet ⟨hCB, hnm, hts _ (tt_mem hins rfl)⟩ ⟨hbl, fun U hU hW => ⟨rfl, hpre U hU hW⟩⟩ rfl rfl hls rfl hwid hd ⟨hc, hsl⟩) hDy.2.2.1 kk
end KRows
/-- what a run from one state to another means -/
def cOK (cA : Nat → ClassId) (D : va_G) (A : Nat → Prop) (Ls : Nat) (xs : Nat → Int32) (l : Launch) (N0 : Nat) (B : xM) (d k : Nat) (st res : cS) : Prop :=
  ∀ (G : xG) (p : Program) (e : Env) (R : Room) (s : State) (m : MethodId) (args : Array Value) (below : List Frame) (meth : Method) (c : Code) (Qf : State → Prop) (H : Heap) (locs : List Loc) (ls : Array Slot),
    kCx G cA D A Ls xs N0 k d p R s m args meth c → cIn G cA D A Ls xs B (kL k) s.heap H locs ls st.2.1 st.2.2.1 st.2.2.2.1 st.2.2.2.2.1 → res.2.2.2.2.2.1 ≤ R.cells → res.2.2.2.2.2.2 ≤ R.slots →
    (∀ (G2 : xG) (H2 : Heap) (locs2 : List Loc) (ls2 : Array Slot), cAg st.2.2.2.1.length G G2 → cIn G2 cA D A Ls xs B (kL k) s.heap H2 locs2 ls2 res.2.1 res.2.2.1 res.2.2.2.1 res.2.2.2.2.1 → W p l e R s m args below meth c H2 locs2 res.2.2.2.2.2.1 res.2.2.2.2.2.2 Qf (F0 m res.1 ls2 (res.2.2.1.map (mkV G2)))) →
    W p l e R s m args below meth c H locs st.2.2.2.2.2.1 st.2.2.2.2.2.2 Qf (F0 m st.1 ls (st.2.2.1.map (mkV G)))
theorem kL_at {k : Nat} {q : MethodName × Nat × Nat × Nat × Nat} (h : kts[k]? = some q) : kL k = q.2.1 := by
  unfold kL
  rw [h]
theorem lay_rv {n a z : Nat} (hn : 1 ≤ n) : (lay1 [((15, z, (a : Int)) : xV)]).length ≤ n := by
  show 1 ≤ n
  exact hn
theorem lay_cV {n sz a z : Nat} (ha : a < sz) : ∀ v ∈ lay [((15, z, (a : Int)) : xV)] n, v.1 = 9 ∨ cV sz v := by
  intro v hv
  have hv : v ∈ [((15, z, (a : Int)) : xV)] ++ List.replicate (n - 1) xU := hv
  rcases List.mem_append.mp hv with h | h
  · rw [List.mem_singleton.mp h]
    exact Or.inr ⟨by show (0 : Int) ≤ (a : Int); omega, by show (a : Int) < (sz : Int); omega⟩
  · rw [List.eq_of_mem_replicate h]; exact Or.inl rfl
/-- a constructor's contract out of its run -/
theorem k_met {cA : Nat → ClassId} {D : va_G} {A : Nat → Prop} {Ls : Nat} {xs : Nat → Int32} {l : Launch} {N0 : Nat} {B : xM} {k d a z mc ms stop : Nat} {q : MethodName × Nat × Nat × Nat × Nat} {G : xG} {SH SH1 SH2 : xSH} {P P1 : List cO} {L1 S1 : List xV} {Qm : xM → Prop} (hq : kts[k]? = some q) (hok : kokB k = true) (hA : ∀ q, N0 ≤ q → A q) (ha : a < SH.length)
    (h : cOK cA D A Ls xs l N0 B d k (0, lay [(15, z, (a : Int))] (kL k), [], SH, P, 0, 0) (stop, L1, S1, SH1, P1, mc, ms)) (hD : va_D A (xW SH G cA (cM B P))) (hM : okM SH (cM B P)) (hO : okO SH (cM B P)) (hPl : ∀ q ∈ P, q.2.1 < SH.length) (hS : xScr Ls xs (cM B P))
    (hend : ∀ (G2 : xG) (p : Program) (e : Env) (R : Room) (s : State) (m : MethodId) (below : List Frame) (meth : Method) (c : Code) (Qf : State → Prop) (H : Heap) (locs : List Loc) (ls : Array Slot), kCx G2 cA D A Ls xs N0 k d p R s m #[.ref (G.1 a)] meth c → mc ≤ R.cells → ms ≤ R.slots → cAg SH.length G G2 → cIn G2 cA D A Ls xs B (kL k) s.heap H locs ls L1 S1 SH1 P1 →
      (∀ (G3 : xG) (N : xM) (H2 : Heap) (locs2 : List Loc) (ls2 : Array Slot), cAg SH.length G G3 → Qm N → xDyn SH2 G3 cA D A Ls xs s.heap N H2 locs2 → W p l e R s m #[.ref (G.1 a)] below meth c H2 locs2 mc ms Qf (F0 m (kR k) ls2 [])) → W p l e R s m #[.ref (G.1 a)] below meth c H locs mc ms Qf (F0 m stop ls (S1.map (mkV G2)))) :
    Met l q.1 (Cond.code q.1 (xbyt q.2.2.1) q.2.1 none :: xTT) { frames := d + 8, cells := mc, slots := ms, locals := 60 * d + 200 } (va_Pc [.ref (G.1 a)] (kPre SH G cA D A Ls xs N0 (cM B P))) (kQc SH2 G cA D A Ls xs SH.length Qm) mc ms A := by
  have hk10 : k < 10 := lt_of_at hq
  have hret := List.all_eq_true.mp kret_all k (List.mem_range.mpr hk10)
  rw [hq] at hret
  have hret := of_decide_eq_true hret
  have hkl := kL_at hq
  have hok2 := hok
  obtain ⟨y, ml, pc0, pi, pk⟩ := q
  simp only [kokB, hq, Bool.and_eq_true, decide_eq_true_eq] at hok2
  obtain ⟨hcn, hcode, hini, hins, hpl, hn1, hn2, hnp, hnm, hm4, hm1⟩ := hok2
  have hm1 := Nat.le_of_ble_eq_true hm1
  refine Met.ofW (cc := xbyt pc0) (maxL := ml) (ret := none) hpl rfl ?_
  intro p e s m args below meth c s₁ Bd hml hv
  obtain ⟨rfl, hst, hax, hn0, hP0⟩ := hv
  have hts := atoms_spec (ws := Cond.code y (xbyt pc0) ml none :: xTT) Bd.pre
  have hown : s.vm.findClass y.cls = some m.cls := findClass_of_methodNamed Bd.named
  have hin : meth.name = "<init>" := ((name_of_methodNamed Bd.named Bd.method).1).trans hnm
  have hr := Bd.returns
  have hlocks := Bd.notSynchronized
  rw [lg_entry_eq]
  have hcx : ∀ G2 : xG, G2.2 = G.2 → kCx G2 cA D A Ls xs N0 k d p { frames := d + 8, cells := mc, slots := ms, locals := 60 * d + 200 } s m #[.ref (G.1 a)] meth c := fun G2 hg => ⟨_, hq, Bd.exec, Bd.bytes, hml, by rw [hcn]; exact hown, fun w hw => hts w (List.mem_cons_of_mem _ hw), xStat_g hg hst, Nat.le_refl _, Nat.le_refl _, hin, hax, hn0⟩
  have hLR := LR_entry (G := G) (as := [((15, z, (a : Int)) : xV)]) (n := ml) (lay_rv hm1)
  have hkl : kL k = ml := hkl
  rw [hkl] at h
  refine h G p e _ s m _ below meth c _ s.heap [] _ (hcx G rfl) ⟨⟨hP0, hD, va_S.rf, hM, hS⟩, hO, hPl, hLR, ?_, lay_cV ha, fun _ hv => by cases hv⟩ (Nat.le_refl _) (Nat.le_refl _) ?_
  · rw [hkl]; exact lay_len (lay_rv hm1)
  · intro G2 H2 locs2 ls2 hg hin2
    refine hend G2 p e _ s m below meth c _ H2 locs2 ls2 (hcx G2 hg.1) (Nat.le_refl _) (Nat.le_refl _) hg hin2 ?_
    intro G3 N H3 locs3 ls3 hg3 hN hdy
    exact W.vret Bd.exec Bd.bytes hr (fun t ht hW => ⟨⟨G3, N, rfl, hg3, hN, by rw [ht]; exact hdy.1, hdy.2.1, hdy.2.2.2.1, hdy.2.2.2.2⟩, hdy.2.2.1.F ht⟩) hdy.2.2.1.2.2 hret
end
section
/-! CONSTRUCTION'S RUN is sound. -/
theorem kck {k : Nat} {q : MethodName × Nat × Nat × Nat × Nat} {e : xE} (hq : kts[k]? = some q) (he : e ∈ kC k) : kchkI k q.2.1 e = true ∧ decode (xbyt q.2.2.1) e.1 = .ok (e.2.1, e.2.2.1) := by
  have h := List.all_eq_true.mp kchk_all k (List.mem_range.mpr (lt_of_at hq))
  obtain ⟨y, ml, pc, pi, pk⟩ := q
  unfold kchk at h
  rw [hq] at h
  have h1 := List.all_eq_true.mp h e he
  rw [Bool.and_eq_true] at h1
  exact ⟨h1.1, of_decide_eq_true h1.2⟩
theorem kok_at {k : Nat} {q : MethodName × Nat × Nat × Nat × Nat} (hq : kts[k]? = some q) : kokB k = true := List.all_eq_true.mp kok_all k (List.mem_range.mpr (lt_of_at hq))
theorem nin_i {x : Int} (h : nin x = true) : 0 ≤ x ∧ x < 200000 := by
  unfold nin at h
  simp only [Bool.and_eq_true, decide_eq_true_eq] at h
  exact h
theorem nin_n {x : Int} (h : 0 ≤ x ∧ x < 200000) : ¬ Int32.ofInt x < 0 ∧ (Int32.ofInt x).toNatClampNeg = x.toNat := by
  have h1 : i32 x := ⟨by omega, by omega⟩
  refine ⟨fun q => ?_, n32 h.1 h1⟩
  have := (l32 h1 (show i32 0 from ⟨by decide, by decide⟩)).mp q
  omega
theorem cVc {n : Nat} {v : xV} {S : List xV} (hv : cV n v) (hS : ∀ w ∈ S, cV n w) : ∀ w ∈ v :: S, cV n w := by
  intro w hw
  rcases List.mem_cons.mp hw with q | q
  · rw [q]; exact hv
  · exact hS w q
theorem cVt {n : Nat} {v : xV} {S : List xV} (hS : ∀ w ∈ v :: S, cV n w) : cV n v ∧ ∀ w ∈ S, cV n w := ⟨hS v List.mem_cons_self, fun w h => hS w (List.mem_cons_of_mem _ h)⟩
theorem cVls {n n2 : Nat} {S : List xV} (hS : ∀ w ∈ S, cV n w) (h : n ≤ n2) : ∀ w ∈ S, cV n2 w := fun w hw => cV_le (hS w hw) h
theorem cVLs {n n2 : Nat} {L : List xV} (hS : ∀ w ∈ L, w.1 = 9 ∨ cV n w) (h : n ≤ n2) : ∀ w ∈ L, w.1 = 9 ∨ cV n2 w := fun w hw => (hS w hw).imp id (fun q => cV_le q h)
theorem cV_get {n i : Nat} {L : List xV} (hL : ∀ w ∈ L, w.1 = 9 ∨ cV n w) (h9 : ¬ (L.getD i xU).1 = 9) : L[i]? = some (L.getD i xU) ∧ cV n (L.getD i xU) := by
  have h1 := getD_at (L := L) (i := i) rfl h9
  refine ⟨h1, ?_⟩
  rcases hL _ (List.mem_of_getElem? h1) with q | q
  · exact absurd q h9
  · exact q
theorem cV_st1 {n i : Nat} {L : List xV} {v : xV} (hL : ∀ w ∈ L, w.1 = 9 ∨ cV n w) (hv : cV n v) : ∀ w ∈ st1 L i v, w.1 = 9 ∨ cV n w := by
  intro w hw
  unfold st1 at hw
  rcases List.mem_or_eq_of_mem_set hw with q | q
  · cases i with
    | zero => exact hL w q
    | succ j =>
      rcases List.mem_or_eq_of_mem_set (show w ∈ L.set j (cutv (L.getD j xU)) from q) with q | q
      · exact hL w q
      · by_cases h9 : (L.getD j xU).1 = 9
        · subst q
          left
          unfold cutv
          split
          · rfl
          · exact h9
        · have h2 := cV_get hL h9
          subst q
          unfold cutv
          rw [cV_1 h2.2]
          exact Or.inr h2.2
  · subst q; exact Or.inr hv
theorem not9 {v : xV} {t : Nat} (h : Nat.beq v.1 t = true) (ht : ¬ t = 9) : ¬ v.1 = 9 := by
  rw [Nat.eq_of_beq_eq_true h]
  exact ht
theorem refT_ok {ty : FieldType} (h : refT ty = true) : (∀ q, narrow ty (.ref q) = .ref q) ∧ (∀ q, fits ty (.ref q) = true) ∧ defaultValue ty = .null := by
  cases ty <;> first | (cases h; done) | exact ⟨fun _ => rfl, fun _ => rfl, rfl⟩
theorem rf_at {ci k : Nat} {C : String} {T : u_T} {N : Nat} (hc : xcl[ci]? = some (C, T, N)) (hk : k < N) {ty : FieldType} (hty : parseFieldDescriptor (T k).2.2.1 = some ty) (h2 : 2 ≤ (xfld ci k).1) : refT ty = true := by
  have hn := (xcl_ok _ _ hc).1
  dsimp only at hn
  have h1 := List.all_eq_true.mp (List.all_eq_true.mp rf_all ci (List.mem_range.mpr (lt_of_at hc))) k (List.mem_range.mpr (by rw [hn]; exact hk))
  unfold rfB at h1
  rw [hc] at h1
  dsimp only at h1
  rw [hty] at h1
  dsimp only at h1
  revert h1 h2
  cases xfld ci k with
  | mk kd r =>
    match kd with
    | 0 => exact fun h2 _ => absurd h2 (by simp)
    | 1 => exact fun h2 _ => absurd h2 (by simp)
    | kd + 2 => exact fun _ h1 => h1
theorem def_ok {ci : Nat} {C : String} {T : u_T} {N : Nat} (hc : xcl[ci]? = some (C, T, N)) (ty : Nat → FieldType) (hty : ∀ k, k < N → parseFieldDescriptor (T k).2.2.1 = some (ty k)) (j : Nat) (hj : j < N) : defaultValue (ty j) = (match (xfld ci j).1 with
      | 0 => Value.int 0
      | 1 => Value.long 0
      | _ => Value.null) := by
  obtain ⟨-, -, -, ty0, hty0, hkt, -⟩ := xcl_ok _ _ hc
  have e : ty0 j = ty j := Option.some.inj ((hty0 j hj).symm.trans (hty j hj))
  have h1 := hkt j hj
  rw [e] at h1
  have h2 := rf_at hc hj (hty j hj)
  revert h1 h2
  cases xfld ci j with
  | mk kd r =>
    match kd with
    | 0 =>
      intro h1 _
      simp only [ktB, Bool.or_eq_true, Bool.and_eq_true, decide_eq_true_eq] at h1
      rcases h1 with ⟨-, h1⟩ | ⟨-, h1⟩ <;> rw [h1] <;> rfl
    | 1 =>
      intro h1 _
      simp only [ktB, decide_eq_true_eq] at h1
      rw [h1]
      rfl
    | kd + 2 => exact fun _ h2 => (refT_ok (h2 (by show 2 ≤ kd + 2; omega))).2.2
theorem okO_up {SH : xSH} {M : xM} {a t n : Nat} {i v : Int} (h : okO SH M) (ha : SH[a]? = some (t, n)) (ht : t = 2 ∨ t = 3) : okO SH (up M a i v) := by
  refine ⟨fun b n2 hb j => ?_, fun b n2 hb j => ?_⟩
  · have e : ¬ b = a := fun q => by
      rw [q, ha] at hb
      rcases hb with hb | hb <;> cases hb <;> rcases ht with ht | ht <;> cases ht
    rw [up_ne (nat_cast_ne e)]
    exact h.1 b n2 hb j
  · have e : ¬ b = a := fun q => by
      rw [q, ha] at hb
      rcases hb with hb | hb <;> cases hb <;> rcases ht with ht | ht <;> cases ht
    rw [up_ne (nat_cast_ne e)]
    exact h.2 b n2 hb j
theorem cP_app {P : List cO} {n n2 : Nat} (h : ∀ q ∈ P, q.2.1 < n) (hn : n ≤ n2) : ∀ q ∈ P, q.2.1 < n2 := fun q hq => Nat.lt_of_lt_of_le (h q hq) hn
theorem cP_cons {P : List cO} {n : Nat} {r : cO} (h : ∀ q ∈ P, q.2.1 < n) (hr : r.2.1 < n) : ∀ q ∈ r :: P, q.2.1 < n := by
  intro q hq
  rcases List.mem_cons.mp hq with e | e
  · rw [e]; exact hr
  · exact h q e
theorem tf_ok {B : xM} {SH : xSH} {P : List cO} {t : Nat} (h : okO SH (cM B P)) (h1 : SH[t]? = some (2, 6)) (h2 : SH[t + 6]? = some (3, 16)) : okO SH (cM B (tfO t ++ P)) := by
  refine okO_up (okO_up (okO_up (okO_up (okO_up (okO_up (okO_up (okO_up (okO_up h h1 (Or.inl rfl)) h2 (Or.inr rfl)) h2 (Or.inr rfl)) h2 (Or.inr rfl)) h2 (Or.inr rfl)) h2 (Or.inr rfl)) h2 (Or.inr rfl)) h2 (Or.inr rfl)) h2 (Or.inr rfl)
theorem tf_pl {SH : xSH} {P : List cO} {t : Nat} (h : ∀ q ∈ P, q.2.1 < SH.length) (h1 : (cDone SH P t)[t]? = some (2, 6)) (h2 : (cDone SH P t)[t + 6]? = some (3, 16)) : ∀ q ∈ tfO t ++ P, q.2.1 < (cDone SH P t).length := by
  have l1 := lt_of_at h1
  have l2 := lt_of_at h2
  have h : ∀ q ∈ P, q.2.1 < (cDone SH P t).length := by rw [cDone_len]; exact h
  exact cP_cons (cP_cons (cP_cons (cP_cons (cP_cons (cP_cons (cP_cons (cP_cons (cP_cons h l1) l2) l2) l2) l2) l2) l2) l2) l2
/-- what is asked of the method that takes the first strides -/
def kTF (cA : Nat → ClassId) (D : va_G) (A : Nat → Prop) (Ls : Nat) (xs : Nat → Int32) (l : Launch) : Prop := ∀ (SH : xSH) (G : xG) (d t : Nat) (B : xM) (P : List cO), xSim SH G cA D A Ls xs l d kTable_takeFirstStrides 0 [xO 6 (t : Int), xU] [] (cM B P) (fun r N => r = xU ∧ N = cM B (tfO t ++ P))
set_option maxRecDepth 100000 in
theorem tf_mts : mts[kTable_takeFirstStrides]? = some (6, 0, ⟨"RouteStrides$Table", "takeFirstStrides", "()V"⟩, 2, none, 184, 131, 183, 0, 0) := by rfl
/-- a void method is called on an object that stands -/
theorem k_virt {p : Program} {l : Launch} {e : Env} {R : Room} {s : State} {m : MethodId} {args : Array Value} {below : List Frame} {meth : Method} {c : Code} {H : Heap} {locs : List Loc} {cells slots : Nat} {Q : State → Prop} {pc : Nat} {ls : Array Slot} {rest : List Value} {SH : xSH} {G : xG} {cA : Nat → ClassId} {D : va_G} {A : Nat → Prop} {Ls : Nat} {xs : Nat → Int32} {M : xM}
    {own idx k1 pos d1 ml0 b ow maxL pcw pi pk ps np : Nat} {y : MethodName} {As : List xV} {Qx : xQ} {cc : ByteArray} (ht1 : mts[k1]? = some (ow, 0, y, maxL, none, pcw, pi, pk, ps, np)) (hnl : k1 ≠ kLaw_law) (h : xSim SH G cA D A Ls xs l d1 k1 0 (lay (xO ow (b : Int) :: As) maxL) [] M Qx) (hn3 : (lay1 (xO ow (b : Int) :: As)).length ≤ maxL) (hAs : ∀ v ∈ As, okV SH v) (hnA : As.length = np)
    (hx : p.tables.exec = Jvm.exec) (hb : c.code = cc) (hml : c.maxLocals = ml0) (hown : s.vm.findClass (xcn own) = some m.cls) (hts : ∀ w ∈ xTT, w.before args s = true) (hst : xStat G cA D A Ls xs s) (hDy : xDyn SH G cA D A Ls xs s.heap M H locs) (hsh : SH[b]? = some (2, ow)) (hlk : xmok (own, idx, k1, 0, pos) = true)
    (hf : d1 + 1 + 8 ≤ R.frames) (hl : 60 * (d1 + 1) + 200 ≤ R.locals) (hc : cells ≤ R.cells) (hsl : slots ≤ R.slots) (hls : ls.size = ml0) (hw : (rest.map fun v => v.category).sum ≤ 8) (hd : decode cc pc = .ok (.invokevirtual idx, 3))
    (kk : ∀ (r : xV) (N : xM) (H1 : Heap) (locs1 : List Loc), Qx r N → xDyn SH G cA D A Ls xs s.heap N H1 locs1 → W p l e R s m args below meth c H1 locs1 cells slots Q (F0 m (pc + 3) ls rest)) : W p l e R s m args below meth c H locs cells slots Q (F0 m pc ls ((As.map (mkV G)).reverse ++ .ref (G.1 b) :: rest)) := by
  have htok := mts_tok ht1 hnl
  have hcm := code_mem htok
  have htk := htok
  simp only [xtok, Bool.and_eq_true, decide_eq_true_eq] at htk
  obtain ⟨hcn, -, hini, hkind, hpl, hny1, hny2, hnp⟩ := htk
  have hmx : maxL ≤ 40 := Nat.le_of_ble_eq_true (List.all_eq_true.mp mts_max _ (List.mem_of_getElem? ht1))
  have hoks : ∀ v ∈ xO ow (b : Int) :: As, okV SH v := okc (v := xO ow (b : Int)) ⟨by show (0 : Int) ≤ (b : Int); omega, hsh⟩ hAs
  have hMet := x_met (l := l) ht1 hnl htok hn3 hoks hDy.2.1 hDy.2.2.2.1 hDy.2.2.2.2 h
  have hG : GoodIn xTT (Cond.code y (xbyt pcw) maxL none :: xTT) := fun w hw => by
    rcases List.mem_cons.mp hw with e | e
    · rw [e]; exact tt_good _ hcm
    · exact tt_good w e
  have hbl : FrameBlind (va_Pc ((xO ow (b : Int) :: As).map (mkV G)) (fun U => xStat G cA D A Ls xs U ∧ va_P D xcl (xW SH G cA M) U.heap)) := fun a U g mk q => ⟨q.1, xStat_same rfl rfl q.2.1, q.2.2⟩
  have hpre : ∀ U : State, U.heap = H → s.WarmedH U.vm → (fun U => xStat G cA D A Ls xs U ∧ va_P D xcl (xW SH G cA M) U.heap) U := fun U hU hW => ⟨xStat_warm hW hU hDy.2.2.1 hst, by show va_P D xcl _ U.heap; rw [hU]; exact hDy.1⟩
  have hroom : d1 + 8 + 1 ≤ R.frames ∧ 8 + (maxL + 11) + (60 * d1 + 200) ≤ R.locals := ⟨by omega, by omega⟩
  have hwid : 2 * (F0 m pc ls ((As.map (mkV G)).reverse ++ .ref (G.1 b) :: rest)).monitorRoom + (rest.map fun v => v.category).sum ≤ 8 := by
    show 2 * 0 + _ ≤ 8
    omega
  simp only [xmok, ht1, decide_eq_true_eq] at hlk
  obtain ⟨rc, hrc1, -⟩ := hDy.1 b _ (xW_at hsh)
  obtain ⟨-, -, hcn2, -⟩ := xcl_ok _ _ hrc1
  have hcell := va_recv hst.1 hDy.1 hrc1 (xW_at hsh)
  have hCB : CallB R s args (xcn own) idx y (xbyt pcw) maxL none (Cond.code y (xbyt pcw) maxL none :: xTT) { frames := d1 + 8, cells := 0, slots := 0, locals := 60 * d1 + 200 } 0 0 np := callB_of np hts hG rfl rfl rfl (hts _ (tt_mem hini rfl)) (hts _ (tt_mem hlk rfl)) ⟨hny1, hny2, hnp⟩ hroom
  refine x_back (va_runV (As := As.map (mkV G)) (rest := rest) (C := y.cls) (b := G.1 b) ⟨hx, hb, hml, hown, hts⟩ hMet ⟨hCB, hts _ (tt_mem hkind.1 rfl), hts _ (tt_mem hkind.2 rfl)⟩ ⟨hbl, by rw [← hcn, hcn2]; exact hcell, fun U hU hW => ⟨rfl, hpre U hU hW⟩⟩ rfl (by rw [List.length_map]; exact hnA) hls rfl hwid hd ⟨hc, hsl⟩) hDy.2.2.1 (fun r N H1 locs1 hq hr hk2 hdy1 => ?_)
  have e9 : (xov G r).toList ++ rest = rest := by
    obtain ⟨tg, n, x⟩ := r
    unfold xRk at hk2
    dsimp only at hk2
    split at hk2
    · rcases hk2 with hk2 | hk2 <;> cases hk2
    · cases hk2
    · rfl
    · exact hk2.elim
  rw [e9]
  exact kk r N H1 locs1 hq hdy1
set_option maxHeartbeats 4000000 in
set_option maxRecDepth 20000 in
theorem c_sound {cA : Nat → ClassId} {D : va_G} {A : Nat → Prop} {Ls : Nat} {xs : Nat → Int32} {l : Launch} {N0 : Nat} {B : xM} (hB : ∀ b j : Nat, B b j = 0) (hA : ∀ q, N0 ≤ q → A q) (hTF : kTF cA D A Ls xs l) :
    ∀ (f d k stop pc : Nat) (L S : List xV) (SH : xSH) (P : List cO) (cl sl : Nat) (res : cS), cRun f d k stop (pc, L, S, SH, P, cl, sl) = some res → res.1 = stop ∧ SH.length ≤ res.2.2.2.1.length ∧ cl ≤ res.2.2.2.2.2.1 ∧ sl ≤ res.2.2.2.2.2.2 ∧ cOK cA D A Ls xs l N0 B d k (pc, L, S, SH, P, cl, sl) res := by
  intro f
  induction f with
  | zero => intro d k stop pc L S SH P cl sl res h; cases h
  | succ f ih =>
    intro d k stop pc L S SH P cl sl res h
    rw [cRun] at h
    cases hs : Nat.beq pc stop with
    | true =>
      rw [hs] at h
      cases h
      exact ⟨Nat.eq_of_beq_eq_true hs, Nat.le_refl _, Nat.le_refl _, Nat.le_refl _, fun G p e R s m args below meth c Qf H locs ls _ hin _ _ kk => kk G H locs ls cAg_rf hin⟩
    | false =>
      rw [hs] at h
      cases he : (kC k).find? (fun e => Nat.beq e.1 pc) with
      | none => rw [he] at h; cases h
      | some e0 =>
        rw [he] at h
        have hmem := List.mem_of_find?_eq_some he
        have hpc : e0.1 = pc := Nat.eq_of_beq_eq_true (show Nat.beq e0.1 pc = true from List.find?_some (p := fun e : xE => Nat.beq e.1 pc) he)
        obtain ⟨pc0, ins, len, a1, a2, a3, a4, c0, ts⟩ := e0
        have hpc : pc0 = pc := hpc
        subst hpc
        cases ins <;> try (cases h; done)
        case iconst n =>
          obtain ⟨g0, g1, g2, g3, go⟩ := ih _ _ _ _ _ _ _ _ _ _ _ h
          refine ⟨g0, g1, g2, g3, ?_⟩
          intro G p e R s m args below meth c Qf H locs ls hcx hin hrc hrs kk
          show W p l e R s m args below meth c H locs cl sl Qf (F0 m pc0 ls (List.map (mkV G) _))
          obtain ⟨q, hq, hx, hb, hml, hown, hts, hst, hrf, hrl, hnm, hax, hN⟩ := id hcx
          obtain ⟨hDy, hO, hPl, hL, hlen, hLo, hSo⟩ := hin
          obtain ⟨hI, hd⟩ := kck hq hmem
          have hd : decode (xbyt q.2.2.1) pc0 = .ok (_, len) := hd
          simp only [kchkI, Bool.and_eq_true, decide_eq_true_eq] at hI
          obtain ⟨h1, h2, h3⟩ := hI
          cases Nat.eq_of_beq_eq_true h1
          subst h2
          exact lv_iconst hx hb hd rfl (go G p e R s m args below meth c Qf H locs ls hcx ⟨hDy, hO, hPl, hL, hlen, hLo, cVc (v := xI _) (r32_i h3) hSo⟩ hrc hrs kk)
        case bipush n =>
          obtain ⟨g0, g1, g2, g3, go⟩ := ih _ _ _ _ _ _ _ _ _ _ _ h
          refine ⟨g0, g1, g2, g3, ?_⟩
          intro G p e R s m args below meth c Qf H locs ls hcx hin hrc hrs kk
          show W p l e R s m args below meth c H locs cl sl Qf (F0 m pc0 ls (List.map (mkV G) _))
          obtain ⟨q, hq, hx, hb, hml, hown, hts, hst, hrf, hrl, hnm, hax, hN⟩ := id hcx
          obtain ⟨hDy, hO, hPl, hL, hlen, hLo, hSo⟩ := hin
          obtain ⟨hI, hd⟩ := kck hq hmem
          have hd : decode (xbyt q.2.2.1) pc0 = .ok (_, len) := hd
          simp only [kchkI, Bool.and_eq_true, decide_eq_true_eq] at hI
          obtain ⟨h1, h2, h3⟩ := hI
          cases Nat.eq_of_beq_eq_true h1
          exact lv_bipush hx hb hd h2 (go G p e R s m args below meth c Qf H locs ls hcx ⟨hDy, hO, hPl, hL, hlen, hLo, cVc (v := xI _) (r32_i h3) hSo⟩ hrc hrs kk)
        case sipush n =>
          obtain ⟨g0, g1, g2, g3, go⟩ := ih _ _ _ _ _ _ _ _ _ _ _ h
          refine ⟨g0, g1, g2, g3, ?_⟩
          intro G p e R s m args below meth c Qf H locs ls hcx hin hrc hrs kk
          show W p l e R s m args below meth c H locs cl sl Qf (F0 m pc0 ls (List.map (mkV G) _))
          obtain ⟨q, hq, hx, hb, hml, hown, hts, hst, hrf, hrl, hnm, hax, hN⟩ := id hcx
          obtain ⟨hDy, hO, hPl, hL, hlen, hLo, hSo⟩ := hin
          obtain ⟨hI, hd⟩ := kck hq hmem
          have hd : decode (xbyt q.2.2.1) pc0 = .ok (_, len) := hd
          simp only [kchkI, Bool.and_eq_true, decide_eq_true_eq] at hI
          obtain ⟨h1, h2, h3⟩ := hI
          cases Nat.eq_of_beq_eq_true h1
          exact lv_sipush hx hb hd h2 (go G p e R s m args below meth c Qf H locs ls hcx ⟨hDy, hO, hPl, hL, hlen, hLo, cVc (v := xI _) (r32_i h3) hSo⟩ hrc hrs kk)
        case ldc idx =>
          obtain ⟨g0, g1, g2, g3, go⟩ := ih _ _ _ _ _ _ _ _ _ _ _ h
          refine ⟨g0, g1, g2, g3, ?_⟩
          intro G p e R s m args below meth c Qf H locs ls hcx hin hrc hrs kk
          show W p l e R s m args below meth c H locs cl sl Qf (F0 m pc0 ls (List.map (mkV G) _))
          obtain ⟨q, hq, hx, hb, hml, hown, hts, hst, hrf, hrl, hnm, hax, hN⟩ := id hcx
          obtain ⟨hDy, hO, hPl, hL, hlen, hLo, hSo⟩ := hin
          obtain ⟨hI, hd⟩ := kck hq hmem
          have hd : decode (xbyt q.2.2.1) pc0 = .ok (_, len) := hd
          simp only [kchkI, Bool.and_eq_true, decide_eq_true_eq] at hI
          obtain ⟨h1, h3, h2⟩ := hI
          cases Nat.eq_of_beq_eq_true h1
          exact lv_ldc hx hb hown (hts _ (tt_mem h2 rfl)) hd (go G p e R s m args below meth c Qf H locs ls hcx ⟨hDy, hO, hPl, hL, hlen, hLo, cVc (v := xI _) (r32_i h3) hSo⟩ hrc hrs kk)
        case ldc_w idx =>
          obtain ⟨g0, g1, g2, g3, go⟩ := ih _ _ _ _ _ _ _ _ _ _ _ h
          refine ⟨g0, g1, g2, g3, ?_⟩
          intro G p e R s m args below meth c Qf H locs ls hcx hin hrc hrs kk
          show W p l e R s m args below meth c H locs cl sl Qf (F0 m pc0 ls (List.map (mkV G) _))
          obtain ⟨q, hq, hx, hb, hml, hown, hts, hst, hrf, hrl, hnm, hax, hN⟩ := id hcx
          obtain ⟨hDy, hO, hPl, hL, hlen, hLo, hSo⟩ := hin
          obtain ⟨hI, hd⟩ := kck hq hmem
          have hd : decode (xbyt q.2.2.1) pc0 = .ok (_, len) := hd
          simp only [kchkI, Bool.and_eq_true, decide_eq_true_eq] at hI
          obtain ⟨h1, h3, h2⟩ := hI
          cases Nat.eq_of_beq_eq_true h1
          exact lv_ldcw hx hb hown (hts _ (tt_mem h2 rfl)) hd (go G p e R s m args below meth c Qf H locs ls hcx ⟨hDy, hO, hPl, hL, hlen, hLo, cVc (v := xI _) (r32_i h3) hSo⟩ hrc hrs kk)
        case aload_n n =>
          cases hc : Nat.beq (L.getD a1 xU).1 15 with
          | false => simp only [hc] at h; cases h
          | true =>
            simp only [hc] at h
            obtain ⟨g0, g1, g2, g3, go⟩ := ih _ _ _ _ _ _ _ _ _ _ _ h
            refine ⟨g0, g1, g2, g3, ?_⟩
            intro G p e R s m args below meth c Qf H locs ls hcx hin hrc hrs kk
            show W p l e R s m args below meth c H locs cl sl Qf (F0 m pc0 ls (List.map (mkV G) _))
            obtain ⟨q, hq, hx, hb, hml, hown, hts, hst, hrf, hrl, hnm, hax, hN⟩ := id hcx
            obtain ⟨hDy, hO, hPl, hL, hlen, hLo, hSo⟩ := hin
            obtain ⟨hI, hd⟩ := kck hq hmem
            have hd : decode (xbyt q.2.2.1) pc0 = .ok (_, len) := hd
            simp only [kchkI, Bool.and_eq_true, decide_eq_true_eq] at hI
            obtain ⟨h1, h2⟩ := hI
            cases Nat.eq_of_beq_eq_true h1
            obtain ⟨hat, hv⟩ := cV_get hLo (not9 hc (by decide))
            obtain ⟨z, a, ev, ha⟩ := cV_r hv hc
            have hl := hL.2.2 _ _ hat (not9 hc (by decide))
            have hg := go G p e R s m args below meth c Qf H locs ls hcx ⟨hDy, hO, hPl, hL, hlen, hLo, cVc hv hSo⟩ hrc hrs kk
            rw [ev] at hl
            have hg : W p l e R s m args below meth c H locs cl sl Qf (F0 m (pc0 + 1) ls ((L.getD a1 xU :: S).map (mkV G))) := hg
            rw [List.map_cons, ev] at hg
            exact lv_aload_n hx hb hd h2 hl hg
        case iload_n n =>
          cases hc : Nat.beq (L.getD a1 xU).1 0 with
          | false => simp only [hc] at h; cases h
          | true =>
            simp only [hc] at h
            obtain ⟨g0, g1, g2, g3, go⟩ := ih _ _ _ _ _ _ _ _ _ _ _ h
            refine ⟨g0, g1, g2, g3, ?_⟩
            intro G p e R s m args below meth c Qf H locs ls hcx hin hrc hrs kk
            show W p l e R s m args below meth c H locs cl sl Qf (F0 m pc0 ls (List.map (mkV G) _))
            obtain ⟨q, hq, hx, hb, hml, hown, hts, hst, hrf, hrl, hnm, hax, hN⟩ := id hcx
            obtain ⟨hDy, hO, hPl, hL, hlen, hLo, hSo⟩ := hin
            obtain ⟨hI, hd⟩ := kck hq hmem
            have hd : decode (xbyt q.2.2.1) pc0 = .ok (_, len) := hd
            simp only [kchkI, Bool.and_eq_true, decide_eq_true_eq] at hI
            obtain ⟨h1, h2⟩ := hI
            cases Nat.eq_of_beq_eq_true h1
            obtain ⟨hat, hv⟩ := cV_get hLo (not9 hc (by decide))
            obtain ⟨z, x, ev, ha⟩ := cV_i hv hc
            have hl := hL.2.2 _ _ hat (not9 hc (by decide))
            have hg := go G p e R s m args below meth c Qf H locs ls hcx ⟨hDy, hO, hPl, hL, hlen, hLo, cVc hv hSo⟩ hrc hrs kk
            rw [ev] at hl
            have hg : W p l e R s m args below meth c H locs cl sl Qf (F0 m (pc0 + 1) ls ((L.getD a1 xU :: S).map (mkV G))) := hg
            rw [List.map_cons, ev] at hg
            exact lv_iload_n hx hb hd h2 hl hg
        case istore_n n =>
          cases S with
          | nil => cases h
          | cons v T =>
          cases hc : Nat.beq v.1 0 with
          | false => simp only [hc] at h; cases h
          | true =>
            simp only [hc] at h
            obtain ⟨g0, g1, g2, g3, go⟩ := ih _ _ _ _ _ _ _ _ _ _ _ h
            refine ⟨g0, g1, g2, g3, ?_⟩
            intro G p e R s m args below meth c Qf H locs ls hcx hin hrc hrs kk
            show W p l e R s m args below meth c H locs cl sl Qf (F0 m pc0 ls (List.map (mkV G) _))
            obtain ⟨q, hq, hx, hb, hml, hown, hts, hst, hrf, hrl, hnm, hax, hN⟩ := id hcx
            obtain ⟨hDy, hO, hPl, hL, hlen, hLo, hSo⟩ := hin
            obtain ⟨hI, hd⟩ := kck hq hmem
            have hd : decode (xbyt q.2.2.1) pc0 = .ok (_, len) := hd
            simp only [kchkI, Bool.and_eq_true, decide_eq_true_eq] at hI
            obtain ⟨h1, h2, h3⟩ := hI
            cases Nat.eq_of_beq_eq_true h1
            obtain ⟨hv, hT⟩ := cVt hSo
            obtain ⟨z, x, rfl, hx1⟩ := cV_i hv hc
            have hlt := Nat.le_of_ble_eq_true h3
            refine lv_istore_n hx hb hd h2 (LR_has hL) (by rw [hlen, kL_at hq]; exact hlt) rfl (fun ls' hl' => ?_)
            exact go G p e R s m args below meth c Qf H locs ls' hcx ⟨hDy, hO, hPl, LR_st1 hl', by rw [st1_len]; exact hlen, cV_st1 hLo hv, hT⟩ hrc hrs kk
        case iinc n w =>
          cases hc : Nat.beq (L.getD a1 xU).1 0 with
          | false => simp only [hc] at h; cases h
          | true =>
            simp only [hc] at h
            obtain ⟨g0, g1, g2, g3, go⟩ := ih _ _ _ _ _ _ _ _ _ _ _ h
            refine ⟨g0, g1, g2, g3, ?_⟩
            intro G p e R s m args below meth c Qf H locs ls hcx hin hrc hrs kk
            show W p l e R s m args below meth c H locs cl sl Qf (F0 m pc0 ls (List.map (mkV G) _))
            obtain ⟨q, hq, hx, hb, hml, hown, hts, hst, hrf, hrl, hnm, hax, hN⟩ := id hcx
            obtain ⟨hDy, hO, hPl, hL, hlen, hLo, hSo⟩ := hin
            obtain ⟨hI, hd⟩ := kck hq hmem
            have hd : decode (xbyt q.2.2.1) pc0 = .ok (_, len) := hd
            simp only [kchkI, Bool.and_eq_true, decide_eq_true_eq] at hI
            obtain ⟨h1, h2, h3⟩ := hI
            cases Nat.eq_of_beq_eq_true h1
            cases Nat.eq_of_beq_eq_true h2
            subst h3
            obtain ⟨hat, hv⟩ := cV_get hLo (not9 hc (by decide))
            obtain ⟨z, x, ev, ha⟩ := cV_i hv hc
            have hg := fun (ls' : Array Slot) => go G p e R s m args below meth c Qf H locs ls' hcx
            rw [ev] at hat hg
            obtain ⟨j, hj⟩ := List.mem_iff_getElem?.mp (lvl_mem (G := G) hat (by simp))
            refine lv_iinc hx hb hd (LR_has hL) hj (v := Int32.ofInt (z32 (x + w))) (by rw [o32, Int32.ofInt_add]) (List.getElem?_eq_some_iff.mp hat).1 rfl (fun ls' hl' => ?_)
            exact hg ls' ⟨hDy, hO, hPl, LR_st1 (v := xI (z32 (x + w))) hl', by rw [st1_len]; exact hlen, cV_st1 hLo (i32_z _), hSo⟩ hrc hrs kk
        case dup =>
          cases S with
          | nil => cases h
          | cons v T =>
          obtain ⟨g0, g1, g2, g3, go⟩ := ih _ _ _ _ _ _ _ _ _ _ _ h
          refine ⟨g0, g1, g2, g3, ?_⟩
          intro G p e R s m args below meth c Qf H locs ls hcx hin hrc hrs kk
          show W p l e R s m args below meth c H locs cl sl Qf (F0 m pc0 ls (List.map (mkV G) _))
          obtain ⟨q, hq, hx, hb, hml, hown, hts, hst, hrf, hrl, hnm, hax, hN⟩ := id hcx
          obtain ⟨hDy, hO, hPl, hL, hlen, hLo, hSo⟩ := hin
          obtain ⟨hI, hd⟩ := kck hq hmem
          have hd : decode (xbyt q.2.2.1) pc0 = .ok (_, len) := hd
          cases Nat.eq_of_beq_eq_true hI
          obtain ⟨hv, hT⟩ := cVt hSo
          exact lv_dup hx hb hd (cat1 (by rw [cV_1 hv]; rfl)) (go G p e R s m args below meth c Qf H locs ls hcx ⟨hDy, hO, hPl, hL, hlen, hLo, cVc hv hSo⟩ hrc hrs kk)
        case goto off =>
          obtain ⟨g0, g1, g2, g3, go⟩ := ih _ _ _ _ _ _ _ _ _ _ _ h
          refine ⟨g0, g1, g2, g3, ?_⟩
          intro G p e R s m args below meth c Qf H locs ls hcx hin hrc hrs kk
          show W p l e R s m args below meth c H locs cl sl Qf (F0 m pc0 ls (List.map (mkV G) _))
          obtain ⟨q, hq, hx, hb, hml, hown, hts, hst, hrf, hrl, hnm, hax, hN⟩ := id hcx
          obtain ⟨hDy, hO, hPl, hL, hlen, hLo, hSo⟩ := hin
          obtain ⟨hI, hd⟩ := kck hq hmem
          have hd : decode (xbyt q.2.2.1) pc0 = .ok (_, len) := hd
          simp only [kchkI, Bool.and_eq_true, decide_eq_true_eq] at hI
          obtain ⟨h1, h2⟩ := hI
          cases Nat.eq_of_beq_eq_true h1
          exact lv_goto hx hb hd h2 (go G p e R s m args below meth c Qf H locs ls hcx ⟨hDy, hO, hPl, hL, hlen, hLo, hSo⟩ hrc hrs kk)
        case if_icmp o off =>
          cases S with
          | nil => cases h
          | cons y T =>
          cases T with
          | nil => cases h
          | cons x T =>
          cases hc : (Nat.beq y.1 0 && Nat.beq x.1 0) with
          | false => simp only [hc] at h; cases h
          | true =>
            simp only [hc] at h
            rw [Bool.and_eq_true] at hc
            cases hy : decide (y.2.2 ≤ x.2.2)
            · simp only [hy] at h
              have hy := of_decide_eq_false hy
              obtain ⟨g0, g1, g2, g3, go⟩ := ih _ _ _ _ _ _ _ _ _ _ _ h
              refine ⟨g0, g1, g2, g3, ?_⟩
              intro G p e R s m args below meth c Qf H locs ls hcx hin hrc hrs kk
              obtain ⟨q, hq, hx, hb, hml, hown, hts, hst, hrf, hrl, hnm, hax, hN⟩ := id hcx
              obtain ⟨hDy, hO, hPl, hL, hlen, hLo, hSo⟩ := hin
              obtain ⟨hI, hd⟩ := kck hq hmem
              have hd : decode (xbyt q.2.2.1) pc0 = .ok (_, len) := hd
              simp only [kchkI, Bool.and_eq_true, decide_eq_true_eq] at hI
              obtain ⟨h1, h2, h3⟩ := hI
              cases Nat.eq_of_beq_eq_true h1
              subst h2
              obtain ⟨hv, hT⟩ := cVt hSo
              obtain ⟨hw, hT⟩ := cVt hT
              obtain ⟨z1, y, rfl, hy1⟩ := cV_i hv hc.1
              obtain ⟨z2, x, rfl, hx1⟩ := cV_i hw hc.2
              have hy : ¬ y ≤ x := hy
              exact lv_icmp_ge hx hb hd h3 (fun q => absurd ((le32 hy1 hx1).mp q) hy) (fun _ => go G p e R s m args below meth c Qf H locs ls hcx ⟨hDy, hO, hPl, hL, hlen, hLo, hT⟩ hrc hrs kk)
            · simp only [hy] at h
              have hy := of_decide_eq_true hy
              obtain ⟨g0, g1, g2, g3, go⟩ := ih _ _ _ _ _ _ _ _ _ _ _ h
              refine ⟨g0, g1, g2, g3, ?_⟩
              intro G p e R s m args below meth c Qf H locs ls hcx hin hrc hrs kk
              obtain ⟨q, hq, hx, hb, hml, hown, hts, hst, hrf, hrl, hnm, hax, hN⟩ := id hcx
              obtain ⟨hDy, hO, hPl, hL, hlen, hLo, hSo⟩ := hin
              obtain ⟨hI, hd⟩ := kck hq hmem
              have hd : decode (xbyt q.2.2.1) pc0 = .ok (_, len) := hd
              simp only [kchkI, Bool.and_eq_true, decide_eq_true_eq] at hI
              obtain ⟨h1, h2, h3⟩ := hI
              cases Nat.eq_of_beq_eq_true h1
              subst h2
              obtain ⟨hv, hT⟩ := cVt hSo
              obtain ⟨hw, hT⟩ := cVt hT
              obtain ⟨z1, y, rfl, hy1⟩ := cV_i hv hc.1
              obtain ⟨z2, x, rfl, hx1⟩ := cV_i hw hc.2
              have hy :  y ≤ x := hy
              exact lv_icmp_ge hx hb hd h3 (fun _ => go G p e R s m args below meth c Qf H locs ls hcx ⟨hDy, hO, hPl, hL, hlen, hLo, hT⟩ hrc hrs kk) (fun q => absurd ((le32 hy1 hx1).mpr hy) q)
        case new idx =>
          obtain ⟨g0, g1, g2, g3, go⟩ := ih _ _ _ _ _ _ _ _ _ _ _ h
          refine ⟨g0, (by have g1 : (SH ++ [_]).length ≤ _ := g1; rw [List.length_append] at g1; exact Nat.le_trans (Nat.le_add_right _ _) g1), by omega, by omega, ?_⟩
          intro G p e R s m args below meth c Qf H locs ls hcx hin hrc hrs kk
          show W p l e R s m args below meth c H locs cl sl Qf (F0 m pc0 ls (List.map (mkV G) _))
          obtain ⟨q, hq, hx, hb, hml, hown, hts, hst, hrf, hrl, hnm, hax, hN⟩ := id hcx
          obtain ⟨hDy, hO, hPl, hL, hlen, hLo, hSo⟩ := hin
          obtain ⟨hI, hd⟩ := kck hq hmem
          have hd : decode (xbyt q.2.2.1) pc0 = .ok (_, len) := hd
          simp only [kchkI, Bool.and_eq_true] at hI
          obtain ⟨h1, h2⟩ := hI
          cases Nat.eq_of_beq_eq_true h1
          cases hc : xcl[a1]? with
          | none => rw [hc] at h2; cases h2
          | some r =>
            obtain ⟨C, T, N⟩ := r
            rw [hc] at h2
            simp only [Bool.and_eq_true, decide_eq_true_eq] at h2
            obtain ⟨e1, e2, e3, e4⟩ := h2
            cases Nat.eq_of_beq_eq_true e1
            refine c_new hx hb hts hst hDy hO (fun j => by rw [rd_ok hB]; exact rd_out hPl (Nat.le_refl _)) (fun q hq => hA q (Nat.le_trans hN hq)) hown hc (tt_mem e2 rfl) (tt_mem e3 rfl) (tt_mem e4 rfl) (by omega) (by omega) hd (def_ok hc) (fun Q1 H1 hDy1 hO1 => ?_)
            have hal : SH.length ≤ (SH ++ [(13, a1)]).length := by rw [List.length_append]; exact Nat.le_add_right _ _
            have hg := go (gx G SH.length Q1) p e R s m args below meth c Qf H1 locs ls ⟨q, hq, hx, hb, hml, hown, hts, xStat_g rfl hst, hrf, hrl, hnm, hax, hN⟩ ⟨hDy1, hO1, cP_app hPl hal, LR_g hLo cAg_gx hL, hlen, cVLs hLo hal, cVc (v := rV SH.length) ⟨by show (0 : Int) ≤ (SH.length : Int); omega, by show (SH.length : Int) < ((SH ++ [_]).length : Int); rw [List.length_append]; show (SH.length : Int) < ((SH.length + 1 : Nat) : Int); omega⟩ (cVls hSo hal)⟩ hrc hrs (fun G2 H2 l2 s2 hag hi => kk G2 H2 l2 s2 (cAg_tr cAg_gx hag hal) hi)
            have hg : W p l e R s m args below meth c H1 locs _ _ Qf (F0 m _ ls ((rV SH.length :: S).map (mkV (gx G SH.length Q1)))) := hg
            rw [List.map_cons, map_g hSo cAg_gx, show mkV (gx G SH.length Q1) (rV SH.length) = .ref Q1 from congrArg Value.ref (by rw [Int.toNat_natCast]; exact gx_at)] at hg
            exact hg
        case newarray ty =>
          cases S with
          | nil => cases h
          | cons v T =>
          cases hc : (Nat.beq v.1 0 && nin v.2.2) with
          | false => simp only [hc] at h; cases h
          | true =>
            simp only [hc] at h
            obtain ⟨g0, g1, g2, g3, go⟩ := ih _ _ _ _ _ _ _ _ _ _ _ h
            refine ⟨g0, (by have g1 : (SH ++ [_]).length ≤ _ := g1; rw [List.length_append] at g1; exact Nat.le_trans (Nat.le_add_right _ _) g1), by omega, by omega, ?_⟩
            intro G p e R s m args below meth c Qf H locs ls hcx hin hrc hrs kk
            show W p l e R s m args below meth c H locs cl sl Qf (F0 m pc0 ls (List.map (mkV G) _))
            obtain ⟨q, hq, hx, hb, hml, hown, hts, hst, hrf, hrl, hnm, hax, hN⟩ := id hcx
            obtain ⟨hDy, hO, hPl, hL, hlen, hLo, hSo⟩ := hin
            obtain ⟨hI, hd⟩ := kck hq hmem
            have hd : decode (xbyt q.2.2.1) pc0 = .ok (_, len) := hd
            rw [Bool.and_eq_true] at hc
            simp only [kchkI, Bool.and_eq_true] at hI
            obtain ⟨h1, h2⟩ := hI
            cases Nat.eq_of_beq_eq_true h1
            obtain ⟨hv, hT⟩ := cVt hSo
            obtain ⟨z, x, rfl, hx1⟩ := cV_i hv hc.1
            have hni : 0 ≤ x ∧ x < 200000 := nin_i hc.2
            obtain ⟨hn1, hn2⟩ := nin_n hni
            have hx200 : x.toNat < 200000 := by omega
            have g2 : cl + 1 ≤ _ := g2
            have g3 : sl + x.toNat ≤ _ := g3
            split at h2
            · have e9 := of_decide_eq_true h2
              subst e9
              refine c_newI hx hb hst hDy hO (fun j => by rw [rd_ok hB]; exact rd_out hPl (Nat.le_refl _)) (fun q hq => hA q (Nat.le_trans hN hq)) (hts _ w_ai) hn1 hn2 (by omega) (by omega) (by omega) hd (fun Q1 H1 hDy1 hO1 => ?_)
              have hal : SH.length ≤ (SH ++ [(3, x.toNat)]).length := by rw [List.length_append]; exact Nat.le_add_right _ _
              have hg := go (gx G SH.length Q1) p e R s m args below meth c Qf H1 locs ls ⟨q, hq, hx, hb, hml, hown, hts, xStat_g rfl hst, hrf, hrl, hnm, hax, hN⟩ ⟨hDy1, hO1, cP_app hPl hal, LR_g hLo cAg_gx hL, hlen, cVLs hLo hal, cVc (v := rV SH.length) ⟨by show (0 : Int) ≤ (SH.length : Int); omega, by show (SH.length : Int) < ((SH ++ [_]).length : Int); rw [List.length_append]; show (SH.length : Int) < ((SH.length + 1 : Nat) : Int); omega⟩ (cVls hT hal)⟩ hrc hrs (fun G2 H2 l2 s2 hag hi => kk G2 H2 l2 s2 (cAg_tr cAg_gx hag hal) hi)
              have hg : W p l e R s m args below meth c H1 locs _ _ Qf (F0 m _ ls ((rV SH.length :: T).map (mkV (gx G SH.length Q1)))) := hg
              rw [List.map_cons, map_g hT cAg_gx, show mkV (gx G SH.length Q1) (rV SH.length) = .ref Q1 from congrArg Value.ref (by rw [Int.toNat_natCast]; exact gx_at)] at hg
              exact hg
            · have e9 := of_decide_eq_true h2
              subst e9
              refine c_newL hx hb hst hDy hO (fun j => by rw [rd_ok hB]; exact rd_out hPl (Nat.le_refl _)) (fun q hq => hA q (Nat.le_trans hN hq)) (hts _ w_al) hn1 hn2 (by omega) (by omega) (by omega) hd (fun Q1 H1 hDy1 hO1 => ?_)
              have hal : SH.length ≤ (SH ++ [(4, x.toNat)]).length := by rw [List.length_append]; exact Nat.le_add_right _ _
              have hg := go (gx G SH.length Q1) p e R s m args below meth c Qf H1 locs ls ⟨q, hq, hx, hb, hml, hown, hts, xStat_g rfl hst, hrf, hrl, hnm, hax, hN⟩ ⟨hDy1, hO1, cP_app hPl hal, LR_g hLo cAg_gx hL, hlen, cVLs hLo hal, cVc (v := rV SH.length) ⟨by show (0 : Int) ≤ (SH.length : Int); omega, by show (SH.length : Int) < ((SH ++ [_]).length : Int); rw [List.length_append]; show (SH.length : Int) < ((SH.length + 1 : Nat) : Int); omega⟩ (cVls hT hal)⟩ hrc hrs (fun G2 H2 l2 s2 hag hi => kk G2 H2 l2 s2 (cAg_tr cAg_gx hag hal) hi)
              have hg : W p l e R s m args below meth c H1 locs _ _ Qf (F0 m _ ls ((rV SH.length :: T).map (mkV (gx G SH.length Q1)))) := hg
              rw [List.map_cons, map_g hT cAg_gx, show mkV (gx G SH.length Q1) (rV SH.length) = .ref Q1 from congrArg Value.ref (by rw [Int.toNat_natCast]; exact gx_at)] at hg
              exact hg
            · have e9 := of_decide_eq_true h2
              subst e9
              refine c_newZ hx hb hst hDy hO (fun j => by rw [rd_ok hB]; exact rd_out hPl (Nat.le_refl _)) (fun q hq => hA q (Nat.le_trans hN hq)) (hts _ w_az) hn1 hn2 (by omega) (by omega) (by omega) hd (fun Q1 H1 hDy1 hO1 => ?_)
              have hal : SH.length ≤ (SH ++ [(5, x.toNat)]).length := by rw [List.length_append]; exact Nat.le_add_right _ _
              have hg := go (gx G SH.length Q1) p e R s m args below meth c Qf H1 locs ls ⟨q, hq, hx, hb, hml, hown, hts, xStat_g rfl hst, hrf, hrl, hnm, hax, hN⟩ ⟨hDy1, hO1, cP_app hPl hal, LR_g hLo cAg_gx hL, hlen, cVLs hLo hal, cVc (v := rV SH.length) ⟨by show (0 : Int) ≤ (SH.length : Int); omega, by show (SH.length : Int) < ((SH ++ [_]).length : Int); rw [List.length_append]; show (SH.length : Int) < ((SH.length + 1 : Nat) : Int); omega⟩ (cVls hT hal)⟩ hrc hrs (fun G2 H2 l2 s2 hag hi => kk G2 H2 l2 s2 (cAg_tr cAg_gx hag hal) hi)
              have hg : W p l e R s m args below meth c H1 locs _ _ Qf (F0 m _ ls ((rV SH.length :: T).map (mkV (gx G SH.length Q1)))) := hg
              rw [List.map_cons, map_g hT cAg_gx, show mkV (gx G SH.length Q1) (rV SH.length) = .ref Q1 from congrArg Value.ref (by rw [Int.toNat_natCast]; exact gx_at)] at hg
              exact hg
            · have e9 := of_decide_eq_true h2
              subst e9
              refine c_newB hx hb hst hDy hO (fun j => by rw [rd_ok hB]; exact rd_out hPl (Nat.le_refl _)) (fun q hq => hA q (Nat.le_trans hN hq)) (hts _ w_ab) hn1 hn2 (by omega) (by omega) (by omega) hd (fun Q1 H1 hDy1 hO1 => ?_)
              have hal : SH.length ≤ (SH ++ [(12, x.toNat)]).length := by rw [List.length_append]; exact Nat.le_add_right _ _
              have hg := go (gx G SH.length Q1) p e R s m args below meth c Qf H1 locs ls ⟨q, hq, hx, hb, hml, hown, hts, xStat_g rfl hst, hrf, hrl, hnm, hax, hN⟩ ⟨hDy1, hO1, cP_app hPl hal, LR_g hLo cAg_gx hL, hlen, cVLs hLo hal, cVc (v := rV SH.length) ⟨by show (0 : Int) ≤ (SH.length : Int); omega, by show (SH.length : Int) < ((SH ++ [_]).length : Int); rw [List.length_append]; show (SH.length : Int) < ((SH.length + 1 : Nat) : Int); omega⟩ (cVls hT hal)⟩ hrc hrs (fun G2 H2 l2 s2 hag hi => kk G2 H2 l2 s2 (cAg_tr cAg_gx hag hal) hi)
              have hg : W p l e R s m args below meth c H1 locs _ _ Qf (F0 m _ ls ((rV SH.length :: T).map (mkV (gx G SH.length Q1)))) := hg
              rw [List.map_cons, map_g hT cAg_gx, show mkV (gx G SH.length Q1) (rV SH.length) = .ref Q1 from congrArg Value.ref (by rw [Int.toNat_natCast]; exact gx_at)] at hg
              exact hg
            · cases h2
        case anewarray idx =>
          cases S with
          | nil => cases h
          | cons v T =>
          cases hc : (Nat.beq v.1 0 && nin v.2.2) with
          | false => simp only [hc] at h; cases h
          | true =>
            simp only [hc] at h
            obtain ⟨g0, g1, g2, g3, go⟩ := ih _ _ _ _ _ _ _ _ _ _ _ h
            refine ⟨g0, (by have g1 : (SH ++ [_]).length ≤ _ := g1; rw [List.length_append] at g1; exact Nat.le_trans (Nat.le_add_right _ _) g1), by omega, by omega, ?_⟩
            intro G p e R s m args below meth c Qf H locs ls hcx hin hrc hrs kk
            show W p l e R s m args below meth c H locs cl sl Qf (F0 m pc0 ls (List.map (mkV G) _))
            obtain ⟨q, hq, hx, hb, hml, hown, hts, hst, hrf, hrl, hnm, hax, hN⟩ := id hcx
            obtain ⟨hDy, hO, hPl, hL, hlen, hLo, hSo⟩ := hin
            obtain ⟨hI, hd⟩ := kck hq hmem
            have hd : decode (xbyt q.2.2.1) pc0 = .ok (_, len) := hd
            rw [Bool.and_eq_true] at hc
            simp only [kchkI, Bool.and_eq_true, decide_eq_true_eq] at hI
            obtain ⟨h1, h2⟩ := hI
            cases Nat.eq_of_beq_eq_true h1
            obtain ⟨hv, hT⟩ := cVt hSo
            obtain ⟨z, x, rfl, hx1⟩ := cV_i hv hc.1
            have hni : 0 ≤ x ∧ x < 200000 := nin_i hc.2
            obtain ⟨hn1, hn2⟩ := nin_n hni
            have hx200 : x.toNat < 200000 := by omega
            have g2 : cl + 1 ≤ _ := g2
            have g3 : sl + x.toNat ≤ _ := g3
            refine c_newT hx hb hst hDy hO (fun j => by rw [rd_ok hB]; exact rd_out hPl (Nat.le_refl _)) (fun q hq => hA q (Nat.le_trans hN hq)) hown (hts _ (tt_mem h2 rfl)) hax.1 hn1 hn2 (by omega) (by omega) (by omega) hd (fun Q1 H1 hDy1 hO1 => ?_)
            have hal : SH.length ≤ (SH ++ [(14, x.toNat)]).length := by rw [List.length_append]; exact Nat.le_add_right _ _
            have hg := go (gx G SH.length Q1) p e R s m args below meth c Qf H1 locs ls ⟨q, hq, hx, hb, hml, hown, hts, xStat_g rfl hst, hrf, hrl, hnm, hax, hN⟩ ⟨hDy1, hO1, cP_app hPl hal, LR_g hLo cAg_gx hL, hlen, cVLs hLo hal, cVc (v := rV SH.length) ⟨by show (0 : Int) ≤ (SH.length : Int); omega, by show (SH.length : Int) < ((SH ++ [_]).length : Int); rw [List.length_append]; show (SH.length : Int) < ((SH.length + 1 : Nat) : Int); omega⟩ (cVls hT hal)⟩ hrc hrs (fun G2 H2 l2 s2 hag hi => kk G2 H2 l2 s2 (cAg_tr cAg_gx hag hal) hi)
            have hg : W p l e R s m args below meth c H1 locs _ _ Qf (F0 m _ ls ((rV SH.length :: T).map (mkV (gx G SH.length Q1)))) := hg
            rw [List.map_cons, map_g hT cAg_gx, show mkV (gx G SH.length Q1) (rV SH.length) = .ref Q1 from congrArg Value.ref (by rw [Int.toNat_natCast]; exact gx_at)] at hg
            exact hg
        case multianewarray idx dm =>
          cases S with
          | nil => cases h
          | cons w T =>
          cases T with
          | nil => cases h
          | cons v T =>
          cases hc : (Nat.beq v.1 0 && (nin v.2.2 && (Nat.beq w.1 0 && decide (w.2.2 = 17)))) with
          | false => simp only [hc] at h; cases h
          | true =>
            simp only [hc] at h
            obtain ⟨g0, g1, g2, g3, go⟩ := ih _ _ _ _ _ _ _ _ _ _ _ h
            refine ⟨g0, (by have g1 : (mnS SH _).length ≤ _ := g1; rw [mnS_len] at g1; omega), by omega, by omega, ?_⟩
            intro G p e R s m args below meth c Qf H locs ls hcx hin hrc hrs kk
            show W p l e R s m args below meth c H locs cl sl Qf (F0 m pc0 ls (List.map (mkV G) _))
            obtain ⟨q, hq, hx, hb, hml, hown, hts, hst, hrf, hrl, hnm, hax, hN⟩ := id hcx
            obtain ⟨hDy, hO, hPl, hL, hlen, hLo, hSo⟩ := hin
            obtain ⟨hI, hd⟩ := kck hq hmem
            have hd : decode (xbyt q.2.2.1) pc0 = .ok (_, len) := hd
            simp only [Bool.and_eq_true, decide_eq_true_eq] at hc
            simp only [kchkI, Bool.and_eq_true, decide_eq_true_eq] at hI
            obtain ⟨h1, h2, h3⟩ := hI
            cases Nat.eq_of_beq_eq_true h1
            subst h2
            obtain ⟨hw, hT⟩ := cVt hSo
            obtain ⟨hv, hT⟩ := cVt hT
            obtain ⟨z, x, rfl, hx1⟩ := cV_i hv hc.1
            obtain ⟨z2, y, rfl, hy1⟩ := cV_i hw hc.2.2.1
            have hy17 : y = 17 := hc.2.2.2
            subst hy17
            have hni : 0 ≤ x ∧ x < 200000 := nin_i hc.2.1
            obtain ⟨hn1, hn2⟩ := nin_n hni
            have hx200 : x.toNat < 200000 := by omega
            have g2 : cl + 1 + x.toNat ≤ _ := g2
            have g3 : sl + x.toNat + x.toNat * 17 ≤ _ := g3
            refine c_mna hx hb hst hDy hO (fun b hbl j => by rw [rd_ok hB]; exact rd_out hPl hbl) (fun q hq => hA q (Nat.le_trans hN hq)) hown (hts _ (tt_mem h3 rfl)) hax.2 (hts _ w_al) hn1 (show ¬ Int32.ofInt 17 < 0 by decide) hn2 (show (Int32.ofInt 17).toNatClampNeg = 17 by decide) (by omega) (by omega) (by omega) hd (fun Q1 H1 hDy1 hO1 => ?_)
            have hal : SH.length ≤ (mnS SH x.toNat).length := by rw [mnS_len]; omega
            have hg := go (gxs G SH.length Q1) p e R s m args below meth c Qf H1 locs ls ⟨q, hq, hx, hb, hml, hown, hts, xStat_g rfl hst, hrf, hrl, hnm, hax, hN⟩ ⟨hDy1, hO1, cP_cons (cP_app hPl hal) (by show SH.length < (mnS SH x.toNat).length; rw [mnS_len]; omega), LR_g hLo cAg_gxs hL, hlen, cVLs hLo hal, cVc (v := rV SH.length) ⟨by show (0 : Int) ≤ (SH.length : Int); omega, by show (SH.length : Int) < ((mnS SH _).length : Int); rw [mnS_len]; omega⟩ (cVls hT hal)⟩ hrc hrs (fun G2 H2 l2 s2 hag hi => kk G2 H2 l2 s2 (cAg_tr cAg_gxs hag hal) hi)
            have hg : W p l e R s m args below meth c H1 locs _ _ Qf (F0 m (pc0 + 4) ls ((rV SH.length :: T).map (mkV (gxs G SH.length Q1)))) := hg
            rw [List.map_cons, map_g hT cAg_gxs, show mkV (gxs G SH.length Q1) (rV SH.length) = .ref Q1 from congrArg Value.ref (by rw [Int.toNat_natCast, gxs_ge (Nat.le_refl _), Nat.sub_self]; rfl)] at hg
            exact hg
        case putfield idx =>
          cases S with
          | nil => cases h
          | cons w T =>
          cases T with
          | nil => cases h
          | cons v T =>
          cases hc : (Nat.beq w.1 15 && (Nat.beq v.1 15 && decide (SH[v.2.2.toNat]? = some (13, a1)))) with
          | false => simp only [hc] at h; cases h
          | true =>
            simp only [hc] at h
            obtain ⟨g0, g1, g2, g3, go⟩ := ih _ _ _ _ _ _ _ _ _ _ _ h
            refine ⟨g0, g1, g2, g3, ?_⟩
            intro G p e R s m args below meth c Qf H locs ls hcx hin hrc hrs kk
            show W p l e R s m args below meth c H locs cl sl Qf (F0 m pc0 ls (List.map (mkV G) _))
            obtain ⟨q, hq, hx, hb, hml, hown, hts, hst, hrf, hrl, hnm, hax, hN⟩ := id hcx
            obtain ⟨hDy, hO, hPl, hL, hlen, hLo, hSo⟩ := hin
            obtain ⟨hI, hd⟩ := kck hq hmem
            have hd : decode (xbyt q.2.2.1) pc0 = .ok (_, len) := hd
            simp only [Bool.and_eq_true, decide_eq_true_eq] at hc
            simp only [kchkI, Bool.and_eq_true] at hI
            obtain ⟨h1, h2, h3, h4, h5⟩ := hI
            cases Nat.eq_of_beq_eq_true h1
            cases hf : fls[ts.headD 0]? with
            | none => rw [hf] at h2; cases h2
            | some r =>
            obtain ⟨o, i, ci, kf, pos⟩ := r
            rw [hf] at h2
            simp only [Bool.and_eq_true] at h2
            obtain ⟨e1, e2, e3, e4⟩ := h2
            cases Nat.eq_of_beq_eq_true e1
            cases Nat.eq_of_beq_eq_true e2
            cases Nat.eq_of_beq_eq_true e3
            cases Nat.eq_of_beq_eq_true e4
            obtain ⟨C, TF, N, hcl, hkf, hC1, hlk⟩ := fls_at hf
            obtain ⟨hn, hws, hcn, ty0, hty, hkt, hnmf⟩ := xcl_ok _ _ hcl
            dsimp only at hn hws hcn hty hkt hnmf
            cases Nat.eq_of_beq_eq_true h4
            have h3 := Nat.le_of_ble_eq_true h3
            obtain ⟨hw, hT⟩ := cVt hSo
            obtain ⟨hv, hT⟩ := cVt hT
            obtain ⟨zj, j, rfl, hj⟩ := cV_r hw hc.1
            obtain ⟨za, a, rfl, ha⟩ := cV_r hv hc.2.1
            have hsh : SH[a]? = some (13, k) := hc.2.2
            rw [hcl] at h5
            have hrt := refT_ok (rf_at hcl hkf (hty _ hkf) h3)
            have hfin : (TF a2).2.2.2 = true := h5
            refine c_put hx hb hts hst hDy hO hown hcl hsh hj hkf h3 hlk hfin hnm (by rw [hC1]; exact hcn.symm) (hty _ hkf) hrt.1 hrt.2.1 hd (fun H1 locs1 hDy1 hO1 => ?_)
            exact go G p e R s m args below meth c Qf H1 locs1 ls hcx ⟨hDy1, hO1, cP_cons hPl ha, hL, hlen, hLo, hT⟩ hrc hrs kk
        case getfield idx =>
          cases S with
          | nil => cases h
          | cons v T =>
          cases hc : (Nat.beq v.1 15 && (decide (SH[v.2.2.toNat]? = some (13, a1)) && !decide (rd P v.2.2.toNat a2 = 0))) with
          | false => simp only [hc] at h; cases h
          | true =>
            simp only [hc] at h
            obtain ⟨g0, g1, g2, g3, go⟩ := ih _ _ _ _ _ _ _ _ _ _ _ h
            refine ⟨g0, g1, g2, g3, ?_⟩
            intro G p e R s m args below meth c Qf H locs ls hcx hin hrc hrs kk
            show W p l e R s m args below meth c H locs cl sl Qf (F0 m pc0 ls (List.map (mkV G) _))
            obtain ⟨q, hq, hx, hb, hml, hown, hts, hst, hrf, hrl, hnm, hax, hN⟩ := id hcx
            obtain ⟨hDy, hO, hPl, hL, hlen, hLo, hSo⟩ := hin
            obtain ⟨hI, hd⟩ := kck hq hmem
            have hd : decode (xbyt q.2.2.1) pc0 = .ok (_, len) := hd
            simp only [Bool.and_eq_true, decide_eq_true_eq, Bool.not_eq_true', decide_eq_false_iff_not] at hc
            simp only [kchkI, Bool.and_eq_true] at hI
            obtain ⟨h1, h2, h3⟩ := hI
            cases Nat.eq_of_beq_eq_true h1
            cases hf : fls[ts.headD 0]? with
            | none => rw [hf] at h2; cases h2
            | some r =>
            obtain ⟨o, i, ci, kf, pos⟩ := r
            rw [hf] at h2
            simp only [Bool.and_eq_true] at h2
            obtain ⟨e1, e2, e3, e4⟩ := h2
            cases Nat.eq_of_beq_eq_true e1
            cases Nat.eq_of_beq_eq_true e2
            cases Nat.eq_of_beq_eq_true e3
            cases Nat.eq_of_beq_eq_true e4
            obtain ⟨C, TF, N, hcl, hkf, hC1, hlk⟩ := fls_at hf
            obtain ⟨hn, hws, hcn, ty0, hty, hkt, hnmf⟩ := xcl_ok _ _ hcl
            dsimp only at hn hws hcn hty hkt hnmf
            have h3 := Nat.le_of_ble_eq_true h3
            obtain ⟨hv, hT⟩ := cVt hSo
            obtain ⟨za, a, rfl, ha⟩ := cV_r hv hc.1
            have hsh : SH[a]? = some (13, a1) := hc.2.1
            have hz0 : ¬ rd P a a2 = 0 := hc.2.2
            have hO : okO SH (cM B P) := hO
            have hoo := hO.1 a a1 (Or.inl hsh) a2
            rw [rd_ok hB] at hoo
            obtain ⟨b, hbb⟩ : ∃ b : Nat, rd P a a2 = (b : Int) + 1 := ⟨(rd P a a2 - 1).toNat, by omega⟩
            have eb : (rd P a a2 - 1).toNat = b := by omega
            have hg := go G p e R s m args below meth c Qf H locs ls hcx ⟨hDy, hO, hPl, hL, hlen, hLo, cVc (v := rV (rd P a a2 - 1).toNat) ⟨by show (0 : Int) ≤ (((rd P a a2 - 1).toNat : Nat) : Int); omega, by show (((rd P a a2 - 1).toNat : Nat) : Int) < (SH.length : Int); omega⟩ hT⟩ hrc hrs kk
            have hg : W p l e R s m args below meth c H locs cl sl Qf (F0 m (pc0 + 3) ls ((rV (rd P a a2 - 1).toNat :: T).map (mkV G))) := hg
            rw [List.map_cons, eb] at hg
            refine va_get (D := D) hx hb hts hws hown hst.1 hDy.1 a (xW_at hsh) hcl _ hkf (hts _ hlk) (fun _ z => z) (v := mkV G (rV b)) ?_ hd hg
            unfold cfl
            rw [List.getElem?_map, List.getElem?_range (by rw [hn]; exact hkf)]
            show some (cfv G (cM B P) a a2 (xfld a1 a2)) = some (Value.ref (G.1 ((b : Int)).toNat))
            unfold cfv
            rw [rd_ok hB, hbb]
            revert h3
            cases xfld a1 a2 with
            | mk kd r =>
              match kd with
              | 0 => exact fun h3 => absurd h3 (by simp)
              | 1 => exact fun h3 => absurd h3 (by simp)
              | kd + 2 =>
                intro _
                show some (if ((b : Int) + 1) = 0 then Value.null else .ref (G.1 (((b : Int) + 1) - 1).toNat)) = _
                rw [if_neg (by omega), show (((b : Int) + 1) - 1).toNat = b by omega, Int.toNat_natCast]
        case aastore =>
          cases S with
          | nil => cases h
          | cons w T =>
          cases T with
          | nil => cases h
          | cons i T =>
          cases T with
          | nil => cases h
          | cons v T =>
          cases hsv : SH[v.2.2.toNat]? with
          | none => simp only [hsv] at h; cases h
          | some r =>
          obtain ⟨t, n⟩ := r
          simp only [hsv] at h
          cases hc : (Nat.beq w.1 15 && (Nat.beq i.1 0 && (Nat.beq v.1 15 && (Nat.beq t 14 && (decide (SH[w.2.2.toNat]? = some (2, 6)) && (nin i.2.2 && Nat.blt i.2.2.toNat n)))))) with
          | false => simp only [hc] at h; cases h
          | true =>
            simp only [hc] at h
            obtain ⟨g0, g1, g2, g3, go⟩ := ih _ _ _ _ _ _ _ _ _ _ _ h
            refine ⟨g0, g1, g2, g3, ?_⟩
            intro G p e R s m args below meth c Qf H locs ls hcx hin hrc hrs kk
            obtain ⟨q, hq, hx, hb, hml, hown, hts, hst, hrf, hrl, hnm, hax, hN⟩ := id hcx
            obtain ⟨hDy, hO, hPl, hL, hlen, hLo, hSo⟩ := hin
            obtain ⟨hI, hd⟩ := kck hq hmem
            have hd : decode (xbyt q.2.2.1) pc0 = .ok (_, len) := hd
            cases Nat.eq_of_beq_eq_true hI
            simp only [Bool.and_eq_true, decide_eq_true_eq] at hc
            obtain ⟨c1, c2, c3, c4, c5, c6, c7⟩ := hc
            cases Nat.eq_of_beq_eq_true c4
            obtain ⟨hw, hT⟩ := cVt hSo
            obtain ⟨hi, hT⟩ := cVt hT
            obtain ⟨hv, hT⟩ := cVt hT
            obtain ⟨zj, j, rfl, hj⟩ := cV_r hw c1
            obtain ⟨zi, x, rfl, hx1⟩ := cV_i hi c2
            obtain ⟨za, a, rfl, ha⟩ := cV_r hv c3
            have hni : 0 ≤ x ∧ x < 200000 := nin_i c6
            obtain ⟨y, rfl⟩ := nat_of hni.1
            have hyn : y < n := Nat.le_of_ble_eq_true c7
            refine c_ast hx hb hst hDy hO hsv c5 hyn hx1 hd (fun H1 locs1 hDy1 hO1 => ?_)
            exact go G p e R s m args below meth c Qf H1 locs1 ls hcx ⟨hDy1, hO1, cP_cons hPl ha, hL, hlen, hLo, hT⟩ hrc hrs kk
        case invokespecial idx =>
          cases S with
          | nil => cases h
          | cons v T =>
          cases hc : (Nat.beq v.1 15 && Nat.ble (wid T) 8) with
          | false => simp only [hc] at h; cases h
          | true =>
            simp only [hc] at h
            rw [Bool.and_eq_true] at hc
            have hwid := Nat.le_of_ble_eq_true hc.2
            cases h10 : Nat.beq a1 10 with
            | true =>
              simp only [h10] at h
              obtain ⟨g0, g1, g2, g3, go⟩ := ih _ _ _ _ _ _ _ _ _ _ _ h
              refine ⟨g0, g1, g2, g3, ?_⟩
              intro G p e R s m args below meth c Qf H locs ls hcx hin hrc hrs kk
              show W p l e R s m args below meth c H locs cl sl Qf (F0 m pc0 ls (List.map (mkV G) _))
              obtain ⟨q, hq, hx, hb, hml, hown, hts, hst, hrf, hrl, hnm, hax, hN⟩ := id hcx
              obtain ⟨hDy, hO, hPl, hL, hlen, hLo, hSo⟩ := hin
              obtain ⟨hI, hd⟩ := kck hq hmem
              have hd : decode (xbyt q.2.2.1) pc0 = .ok (_, len) := hd
              simp only [kchkI, Bool.and_eq_true, h10, decide_eq_true_eq] at hI
              obtain ⟨h1, h2⟩ := hI
              cases Nat.eq_of_beq_eq_true h1
              obtain ⟨hv, hT⟩ := cVt hSo
              obtain ⟨za, a, rfl, ha⟩ := cV_r hv hc.1
              refine W.objInit (g := F0 m pc0 ls (.ref (G.1 a) :: T.map (mkV G))) hx hb hown (hts _ (tt_mem h2 rfl)) (hts _ w_oi) (hts _ w_oc) rfl (by rw [hml]; show ls.size = _; rw [hL.1, hlen, kL_at hq]) rfl hd (by omega) (by rw [wid_cat]; show 2 * 0 + _ + 12 ≤ _; omega) ?_
              exact go G p e R s m args below meth c Qf H locs ls hcx ⟨hDy, hO, hPl, hL, hlen, hLo, hT⟩ hrc hrs kk
            | false =>
              simp only [h10] at h
              cases d with
              | zero => cases h
              | succ d1 =>
                cases hr : cRun f d1 a1 (kR a1) (0, lay [v] (kL a1), [], SH, P, 0, 0) with
                | none => simp only [hr] at h; cases h
                | some r =>
                  obtain ⟨pcr, L1, S1, SH1, P1, mc, ms⟩ := r
                  simp only [hr] at h
                  cases S1 with
                  | cons _ _ => cases h
                  | nil =>
                    obtain ⟨g0, g1, g2, g3, go⟩ := ih _ _ _ _ _ _ _ _ _ _ _ h
                    obtain ⟨i0, i1, i2, i3, io⟩ := ih _ _ _ _ _ _ _ _ _ _ _ hr
                    have i0 : pcr = kR a1 := i0
                    subst i0
                    have i1 : SH.length ≤ SH1.length := i1
                    have g1 : (cDone SH1 P1 v.2.2.toNat).length ≤ res.2.2.2.1.length := g1
                    rw [cDone_len] at g1
                    refine ⟨g0, by omega, by omega, by omega, ?_⟩
                    intro G p e R s m args below meth c Qf H locs ls hcx hin hrc hrs kk
                    show W p l e R s m args below meth c H locs cl sl Qf (F0 m pc0 ls (List.map (mkV G) _))
                    obtain ⟨q, hq, hx, hb, hml, hown, hts, hst, hrf, hrl, hnm, hax, hN⟩ := id hcx
                    obtain ⟨hDy, hO, hPl, hL, hlen, hLo, hSo⟩ := hin
                    obtain ⟨hI, hd⟩ := kck hq hmem
                    have hd : decode (xbyt q.2.2.1) pc0 = .ok (_, len) := hd
                    simp only [kchkI, Bool.and_eq_true, h10] at hI
                    obtain ⟨h1, h2⟩ := hI
                    cases Nat.eq_of_beq_eq_true h1
                    cases hq1 : kts[a1]? with
                    | none => rw [hq1] at h2; cases h2
                    | some q1 =>
                      rw [hq1] at h2
                      obtain ⟨hv, hT⟩ := cVt hSo
                      obtain ⟨za, a, rfl, ha⟩ := cV_r hv hc.1
                      have hDy : xDyn SH G cA D A Ls xs s.heap (cM B P) H locs := hDy
                      have hlk : kLk a2 k idx (ts.headD 0) q1.1 := by
                        revert h2
                        cases a2 with
                        | zero => exact fun h2 => of_decide_eq_true (p := lw_tbl[ts.headD 0]? = some (Cond.methodLink (xcn k) idx q1.1)) h2
                        | succ _ => exact fun h2 => of_decide_eq_true (p := lw_tbl[ts.headD 0]? = some (Cond.methodLinkNest (xcn k) idx q1.1 "RouteStrides")) h2
                      have hMet := k_met (SH2 := cDone SH1 P1 a) (Qm := fun N => N = cM B P1 ∧ (∀ q ∈ P1, q.2.1 < SH1.length) ∧ okO (cDone SH1 P1 a) (cM B P1)) hq1 (kok_at hq1) hA ha io hDy.2.1 hDy.2.2.2.1 hO hPl hDy.2.2.2.2 (fun G2 p e R s m below meth c Qf H locs ls hcx2 _ _ hg2 hin2 kk2 => by
                        obtain ⟨k1, k2⟩ := cDone_ok hB a hin2.1 hin2.2.1
                        exact kk2 G2 (cM B P1) H locs ls hg2 ⟨rfl, hin2.2.2.1, k2⟩ k1)
                      have g2 : cl + mc ≤ _ := g2
                      have g3 : sl + ms ≤ _ := g3
                      refine k_inv hq1 (kok_at hq1) hMet hx hb hml hown hts hst hax hN hDy hlk (by omega) (by omega) (by omega) (by omega) (by rw [hL.1, hlen, kL_at hq]) (by rw [wid_cat]; exact hwid) hd (fun G2 N H1 locs1 hg2 hN2 hdy2 => ?_)
                      obtain ⟨hN2, hpl1, hO2⟩ := hN2
                      subst hN2
                      have hal : SH.length ≤ (cDone SH1 P1 a).length := by rw [cDone_len]; exact i1
                      have hpl2 : ∀ q ∈ P1, q.2.1 < (cDone SH1 P1 a).length := by rw [cDone_len]; exact hpl1
                      have hg := go G2 p e R s m args below meth c Qf H1 locs1 ls ⟨q, hq, hx, hb, hml, hown, hts, xStat_g hg2.1 hst, hrf, hrl, hnm, hax, hN⟩ ⟨hdy2, hO2, hpl2, LR_g hLo hg2 hL, hlen, cVLs hLo hal, cVls hT hal⟩ hrc hrs (fun G3 H2 l2 s2 hag hi => kk G3 H2 l2 s2 (cAg_tr hg2 hag hal) hi)
                      have hg : W p l e R s m args below meth c H1 locs1 _ _ Qf (F0 m (pc0 + 3) ls (T.map (mkV G2))) := hg
                      rw [map_g hT hg2] at hg
                      exact hg
        case invokevirtual idx =>
          cases S with
          | nil => cases h
          | cons v T =>
          cases hc : (Nat.beq v.1 15 && (Nat.ble (wid T) 8 && (decide ((cDone SH P v.2.2.toNat)[v.2.2.toNat]? = some (2, 6)) && decide ((cDone SH P v.2.2.toNat)[v.2.2.toNat + 6]? = some (3, 16))))) with
          | false => simp only [hc] at h; cases h
          | true =>
            simp only [hc] at h
            cases d with
            | zero => cases h
            | succ d1 =>
              obtain ⟨g0, g1, g2, g3, go⟩ := ih _ _ _ _ _ _ _ _ _ _ _ h
              have g1 : (cDone SH P v.2.2.toNat).length ≤ res.2.2.2.1.length := g1
              rw [cDone_len] at g1
              refine ⟨g0, g1, g2, g3, ?_⟩
              intro G p e R s m args below meth c Qf H locs ls hcx hin hrc hrs kk
              show W p l e R s m args below meth c H locs cl sl Qf (F0 m pc0 ls (List.map (mkV G) _))
              obtain ⟨q, hq, hx, hb, hml, hown, hts, hst, hrf, hrl, hnm, hax, hN⟩ := id hcx
              obtain ⟨hDy, hO, hPl, hL, hlen, hLo, hSo⟩ := hin
              obtain ⟨hI, hd⟩ := kck hq hmem
              have hd : decode (xbyt q.2.2.1) pc0 = .ok (_, len) := hd
              simp only [kchkI, Bool.and_eq_true] at hI
              obtain ⟨h1, h2, h3⟩ := hI
              cases Nat.eq_of_beq_eq_true h1
              cases Nat.eq_of_beq_eq_true h2
              simp only [Bool.and_eq_true, decide_eq_true_eq] at hc
              obtain ⟨c1, c2, c3, c4⟩ := hc
              obtain ⟨hv, hT⟩ := cVt hSo
              obtain ⟨za, a, rfl, ha⟩ := cV_r hv c1
              have c3 : (cDone SH P a)[a]? = some (2, 6) := c3
              have c4 : (cDone SH P a)[a + 6]? = some (3, 16) := c4
              have hwid := Nat.le_of_ble_eq_true c2
              obtain ⟨hDy1, hO1⟩ := cDone_ok hB a hDy hO
              cases hm : mls[ts.headD 0]? with
              | none => rw [hm] at h3; cases h3
              | some r =>
                obtain ⟨o, i, k1, nest, pos⟩ := r
                rw [hm] at h3
                simp only [Bool.and_eq_true] at h3
                obtain ⟨e1, e2, e3, e4⟩ := h3
                cases Nat.eq_of_beq_eq_true e1
                cases Nat.eq_of_beq_eq_true e2
                cases Nat.eq_of_beq_eq_true e3
                cases Nat.eq_of_beq_eq_true e4
                exact k_virt (As := []) (b := a) tf_mts (by decide) (hTF _ _ _ a _ _) (show 1 ≤ 2 by decide) (fun _ hv => by cases hv) rfl hx hb hml hown hts hst hDy1 c3 (mls_at hm) (by omega) (by omega) (by omega) (by omega) (by rw [hL.1, hlen, kL_at hq]) (by rw [wid_cat]; exact hwid) hd (fun r N H1 locs1 hN1 hdy2 => by
                  obtain ⟨-, hN1⟩ := hN1
                  subst hN1
                  exact go G p e R s m args below meth c Qf H1 locs1 ls hcx ⟨hdy2, tf_ok hO1 c3 c4, tf_pl hPl c3 c4, hL, hlen, by rw [cDone_len]; exact hLo, by rw [cDone_len]; exact hT⟩ hrc hrs (fun G3 H2 l2 s2 hag hi => kk G3 H2 l2 s2 (by rw [cDone_len] at hag; exact hag) hi))
end
section
/-! THE LAW'S START: its world, its first sixteen bytes. -/
theorem w_s1 : Cond.stringRef "RouteStrides$Tape" 56 "strides" ∈ lw_tbl := List.mem_of_getElem? (i := 594) (by decide +kernel)
theorem w_s2 : Cond.stringRef "RouteStridesModel" 375 "strides" ∈ lw_tbl := List.mem_of_getElem? (i := 1550) (by decide +kernel)
theorem w_c1 : Cond.laysStatic "java/lang/String" "COMPACT_STRINGS" "Z" ∈ lw_tbl := List.mem_of_getElem? (i := 604) (by decide +kernel)
theorem w_c2 : Cond.laysStatic "jdk/internal/util/Preconditions" "SIOOBE_FORMATTER" "Ljava/util/function/BiFunction;" ∈ lw_tbl := List.mem_of_getElem? (i := 620) (by decide +kernel)
theorem w_i1 : Cond.initialized "java/lang/String" ∈ lw_tbl := List.mem_of_getElem? (i := 140) (by decide +kernel)
theorem w_i2 : Cond.initialized "jdk/internal/util/Preconditions" ∈ lw_tbl := List.mem_of_getElem? (i := 142) (by decide +kernel)
theorem w_l1 : Cond.classLink "RouteStridesLaw" 7 RX8 ∈ xTT := tt_mem (i := 146) (by decide +kernel) rfl
theorem w_l2 : Cond.classLink "RouteStridesLaw" 10 RX9 ∈ xTT := tt_mem (i := 1137) (by decide +kernel) rfl
theorem w_n1 : Cond.initialized RX8 ∈ xTT := tt_mem (i := 129) (by decide +kernel) rfl
theorem w_n2 : Cond.initialized RX9 ∈ xTT := tt_mem (i := 138) (by decide +kernel) rfl
theorem w_in0 : Cond.instantiable RX0 2 ∈ xTT := tt_mem (i := 404) (by decide +kernel) rfl
theorem w_in1 : Cond.instantiable RX1 7 ∈ xTT := tt_mem (i := 368) (by decide +kernel) rfl
theorem w_in2 : Cond.instantiable RX2 3 ∈ xTT := tt_mem (i := 351) (by decide +kernel) rfl
theorem w_in3 : Cond.instantiable RX3 18 ∈ xTT := tt_mem (i := 280) (by decide +kernel) rfl
theorem w_in4 : Cond.instantiable RX4 3 ∈ xTT := tt_mem (i := 419) (by decide +kernel) rfl
theorem w_in5 : Cond.instantiable RX5 10 ∈ xTT := tt_mem (i := 230) (by decide +kernel) rfl
theorem w_in6 : Cond.instantiable RX6 8 ∈ xTT := tt_mem (i := 176) (by decide +kernel) rfl
theorem w_in7 : Cond.instantiable RX7 4 ∈ xTT := tt_mem (i := 155) (by decide +kernel) rfl
theorem w_in8 : Cond.instantiable RX8 17 ∈ xTT := tt_mem (i := 147) (by decide +kernel) rfl
theorem w_in9 : Cond.instantiable RX9 52 ∈ xTT := tt_mem (i := 1138) (by decide +kernel) rfl
theorem k_known {s : State} {args : Array Value} (hts : ∀ w ∈ lw_tbl, w.before args s = true) : ∀ ci : Nat, ∃ r : ClassId × (Nat → Nat), ∀ q : vw_C, xcl[ci]? = some q → u_Kn s q.1 q.2.1 q.2.2 r.1 r.2 := by
  have key : ∀ (ci : Nat) (q : vw_C), xcl[ci]? = some q → Cond.instantiable q.1 q.2.2 ∈ xTT → ∃ r : ClassId × (Nat → Nat), ∀ q : vw_C, xcl[ci]? = some q → u_Kn s q.1 q.2.1 q.2.2 r.1 r.2 := by
    intro ci q hq hi
    obtain ⟨c, iS, h⟩ := u_known (C := q.1) (T := q.2.1) (N := q.2.2) (n := q.2.2) hts (fun w hw => tt_tbl ((xcl_ok ci q hq).2.1 w hw)) (hts _ (tt_tbl hi))
    exact ⟨(c, iS), fun q2 h2 => by rw [hq] at h2; cases h2; exact h⟩
  intro ci
  match ci with
  | 0 => exact key 0 _ rfl w_in0
  | 1 => exact key 1 _ rfl w_in1
  | 2 => exact key 2 _ rfl w_in2
  | 3 => exact key 3 _ rfl w_in3
  | 4 => exact key 4 _ rfl w_in4
  | 5 => exact key 5 _ rfl w_in5
  | 6 => exact key 6 _ rfl w_in6
  | 7 => exact key 7 _ rfl w_in7
  | 8 => exact key 8 _ rfl w_in8
  | 9 => exact key 9 _ rfl w_in9
  | n + 10 => exact ⟨(0, fun _ => 0), fun q hq => by simp [xcl] at hq⟩
theorem k_arr {s : State} {args : Array Value} {ty : FieldType} (h : (Cond.arrayClass ty).before args s = true) (hno : ∀ C, ty ≠ .object C) : ∃ c : ClassId, ArrOfT s c ty ∧ va_RA s c ty := by
  obtain ⟨c, k, comp, h1, h2, h3⟩ := Cond.arrayClass_spec h
  refine ⟨c, fun N z => ⟨(fun k h => by cases h), k, h2, comp, h3⟩, ?_⟩
  cases ty <;> first | exact h1 | exact absurd rfl (hno _)
set_option maxRecDepth 20000 in
theorem k_start {s : State} {b L : Nat} {xs : Nat → Int32} (hts : ∀ w ∈ lw_tbl, w.before #[Value.ref b] s = true) (hgv : (Jvm.Cond.and given_1 narrow_1).before #[Value.ref b] s = true) (hX : va_X b L xs s s.heap) (hbl : b < s.heap.size) :
    ∃ (G : xG) (cA : Nat → ClassId) (D : va_G), G.2.2 = b ∧ xStat G cA D (fun q => s.heap.size ≤ q) L xs s ∧ kAux s := by
  obtain ⟨D0, hD0⟩ := Classical.axiomOfChoice (k_known hts)
  obtain ⟨c3, a3, r3⟩ := k_arr (hts _ (tt_tbl w_ai)) (fun _ h => by cases h)
  obtain ⟨c4, a4, r4⟩ := k_arr (hts _ (tt_tbl w_al)) (fun _ h => by cases h)
  obtain ⟨c5, a5, r5⟩ := k_arr (hts _ (tt_tbl w_az)) (fun _ h => by cases h)
  obtain ⟨c12, a12, r12⟩ := k_arr (hts _ (tt_tbl w_ab)) (fun _ h => by cases h)
  obtain ⟨p6, c6, k6, h61, -, h62, h63, h64⟩ := Cond.arrayOver_spec (hts _ w_ov)
  obtain ⟨p7, c7, k7, h71, -, h72, h73, h74⟩ := Jvm.Stand.arrayOver_specB (hts _ w_ol)
  have hs := flat_of_before _ hgv
  have hA : ∀ a : Nat, a < s.heap.size → ¬ (fun q : Nat => s.heap.size ≤ q) a := fun a h => Nat.not_le.mpr h
  obtain ⟨adK, adV, hS, hev⟩ := vk_Sof (args := #[Value.ref b]) (s := s) (N := 1) (tm := fun _ => Term.string "RouteStrides$Tape" 56) (len := [7]) (byt := [[115, 116, 114, 105, 100, 101, 115]]) (A := fun q : Nat => s.heap.size ≤ q)
    (fun i hi => by rw [show i = 0 by omega]; decide) (fun i hi => hs _ (by decide +kernel)) (fun i hi => hs _ (by decide +kernel)) (fun i hi => hs _ (by decide +kernel)) (fun i hi => by rw [show i = 0 by omega]; exact hs _ (by decide +kernel))
    (fun i hi j hj => by
      rw [show i = 0 by omega] at hj ⊢
      have hj : j < 7 := hj
      rcases (show j = 0 ∨ j = 1 ∨ j = 2 ∨ j = 3 ∨ j = 4 ∨ j = 5 ∨ j = 6 by omega) with rfl | rfl | rfl | rfl | rfl | rfl | rfl <;> exact hs _ (by decide +kernel))
    (fun i j hi hj hij => absurd (show i = j by omega) hij) hA
  have hev0 := hev 0 (by omega)
  have hev2 := va_eqR (u := Term.string "RouteStridesModel" 375) (hs _ (by decide +kernel)) hev0
  refine ⟨(fun _ => 0, adK 0, b), fun t => match t with
    | 3 => c3
    | 4 => c4
    | 5 => c5
    | 6 => c6
    | 7 => c7
    | _ => c12, (fun k => (D0 k).1, fun k => (D0 k).2), rfl, ⟨⟨fun k q hq => hD0 k q hq, fun k q hq => ?_⟩, ⟨adV 0, ⟨fun i hi => ?_, fun i j hi hj _ => by omega⟩, vk_R.of (hts _ w_s1) hev0, vk_R.of (hts _ w_s2) hev2, va_Zof (hts _ w_c1) (hts _ w_i1) (va_eqt (hs _ (by decide +kernel))) hA, va_Zqof (hts _ w_c2) (hts _ w_i2) (hs _ (by decide +kernel)) hA⟩, hX, hbl, Nat.not_le.mpr hbl, fun own idx y hm => va_Nw.of rfl (hts _ hm)⟩, va_AO.of (hts _ w_ov), hts _ w_ol⟩
  · match k, hq with
    | 0, hq => cases hq; exact ⟨a3, r3⟩
    | 1, hq => cases hq; exact ⟨a4, r4⟩
    | 2, hq => cases hq; exact ⟨a5, r5⟩
    | 3, hq => cases hq; exact ⟨fun N z => ⟨(fun k h => by cases h), k6, h62, p6, h63⟩, ⟨k6, p6, h62, h63, h61, h64⟩⟩
    | 4, hq => cases hq; exact ⟨fun N z => ⟨(fun k h => by cases h), k7, h72, p7, h73⟩, h74⟩
    | 5, hq => cases hq; exact ⟨a12, r12⟩
    | k + 6, hq => simp [xtys] at hq
  · have h0 := hS.1 0 (by omega)
    rw [show i = 0 by omega]
    exact h0
/-- the memory ahead of all objects: the script -/
def bM (Ls : Nat) (xs : Nat → Int32) : xM := fun b j => if b = -1 then (if j = 0 then (Ls : Int) else (xs (j - 1).toNat).toInt) else 0
theorem bM_0 {Ls : Nat} {xs : Nat → Int32} : ∀ b j : Nat, bM Ls xs b j = 0 := fun b j => if_neg (by omega)
def oG (o : Option cS) : cS := o.getD (0, [], [], [], [], 0, 0)
theorem oG_ok {o : Option cS} (h : o.isSome = true) : o = some (oG o) := by
  cases o with
  | none => cases h
  | some r => rfl
def rsR : cS := oG (cRun 400 2 8 (kR 8) (0, lay [rV 0] (kL 8), [], [(13, 8)], [], 0, 0))
def rsSH : xSH := rsR.2.2.2.1
def rsP : List cO := rsR.2.2.2.2.1
def mP0 : List cO := (2, 18, 0, 0) :: (2, 17, 0, 0) :: rsP
def mSH0 : xSH := cDone ((rsSH.set 17 (6, 10)).set 18 (6, 2)) mP0 0
def moR : cS := oG (cRun 300 1301 9 271 (0, lay [rV 198] (kL 9), [], mSH0 ++ [(13, 9)], mP0, 0, 0))
def mP : List cO := moR.2.2.2.2.1
def mSH : xSH := cDone moR.2.2.2.1 mP 198
def tabB (SH : xSH) (P : List cO) (a n : Nat) : Bool := decide (SH[a]? = some (14, n)) && (List.range n).all fun j => decide (0 < rd P a j) && decide (SH[(rd P a j - 1).toNat]? = some (2, 6))
set_option maxRecDepth 100000 in
theorem rs_eq : cRun 400 2 8 (kR 8) (0, lay [rV 0] (kL 8), [], [(13, 8)], [], 0, 0) = some rsR := oG_ok (by decide +kernel)
set_option maxRecDepth 100000 in
theorem rs_b : (decide (rsR.1 = kR 8) && (decide (rsR.2.2.1 = []) && (Nat.ble rsR.2.2.2.2.2.1 1000 && (Nat.ble rsR.2.2.2.2.2.2 200000 && (tabB rsSH rsP 17 10 && (tabB (rsSH.set 17 (6, 10)) ((2, 17, 0, 0) :: rsP) 18 2 && (Nat.beq mSH0.length 198 && mP0.all fun q => Nat.blt q.2.1 198))))))) = true := by decide +kernel
set_option maxRecDepth 100000 in
theorem mo_eq : cRun 300 1301 9 271 (0, lay [rV 198] (kL 9), [], mSH0 ++ [(13, 9)], mP0, 0, 0) = some moR := oG_ok (by decide +kernel)
def fSH : xSH := [(2, 8), (2, 7), (3, 400), (2, 6), (4, 60), (3, 60), (3, 60), (3, 60), (3, 60), (3, 16), (2, 6), (4, 60), (3, 60), (3, 60), (3, 60), (3, 60), (3, 16), (6, 10), (6, 2), (2, 5), (4, 121), (4, 121), (3, 121), (3, 121), (4, 60), (3, 60), (3, 33), (2, 5), (4, 121), (4, 121), (3, 121), (3, 121), (4, 60), (3, 60), (3, 33), (2, 3), (4, 901), (3, 901), (4, 901), (4, 901), (3, 901), (3, 901), (3, 16), (3, 902), (3, 2837), (3, 2837), (3, 901), (3, 17), (3, 17), (3, 16), (2, 3), (4, 901), (3, 901), (4, 901), (4, 901), (3, 901), (3, 901), (3, 16), (3, 902), (3, 2837), (3, 2837), (3, 901), (3, 17), (3, 17), (3, 16), (2, 2), (3, 901), (3, 64), (3, 901), (2, 1), (4, 60), (3, 60), (3, 60), (4, 3723), (3, 3723), (2, 0), (4, 33), (7, 33), (4, 17), (4, 17), (4, 17), (4, 17), (4, 17), (4, 17), (4, 17), (4, 17), (4, 17), (4, 17), (4, 17), (4, 17), (4, 17), (4, 17), (4, 17), (4, 17), (4, 17), (4, 17), (4, 17), (4, 17), (4, 17), (4, 17), (4, 17), (4, 17), (4, 17), (4, 17), (4, 17), (4, 17), (4, 17), (4, 17), (4, 17), (4, 17), (4, 17), (2, 4), (4, 64), (3, 64), (2, 6), (4, 60), (3, 60), (3, 60), (3, 60), (3, 60), (3, 16), (2, 6), (4, 60), (3, 60), (3, 60), (3, 60), (3, 60), (3, 16), (2, 6), (4, 60), (3, 60), (3, 60), (3, 60), (3, 60), (3, 16), (2, 6), (4, 60), (3, 60), (3, 60), (3, 60), (3, 60), (3, 16), (2, 6), (4, 60), (3, 60), (3, 60), (3, 60), (3, 60), (3, 16), (2, 6), (4, 60), (3, 60), (3, 60), (3, 60), (3, 60), (3, 16), (2, 6), (4, 60), (3, 60), (3, 60), (3, 60), (3, 60), (3, 16), (2, 6), (4, 60), (3, 60), (3, 60), (3, 60), (3, 60), (3, 16), (2, 6), (4, 60), (3, 60), (3, 60), (3, 60), (3, 60), (3, 16), (2, 6), (4, 60), (3, 60), (3, 60), (3, 60), (3, 60), (3, 16), (2, 6), (4, 60), (3, 60), (3, 60), (3, 60), (3, 60), (3, 16), (2, 6), (4, 60), (3, 60), (3, 60), (3, 60), (3, 60), (3, 16), (2, 9), (3, 259), (3, 2590), (3, 518), (5, 2), (3, 2), (4, 248), (3, 248), (3, 2), (3, 32), (3, 34), (4, 124), (3, 124), (3, 2000), (4, 2000), (3, 18), (3, 64), (3, 64), (3, 259), (4, 64), (3, 64), (3, 24), (12, 400), (4, 64), (3, 64), (3, 64), (3, 2000), (3, 128000), (4, 128), (3, 128), (3, 128), (3, 33), (3, 561)]
set_option maxRecDepth 100000 in
theorem mo_b : (decide (moR.1 = 271) && (decide (moR.2.1 = [rV 198]) && (decide (moR.2.2.1 = []) && (Nat.ble moR.2.2.2.2.2.1 1000 && (Nat.ble moR.2.2.2.2.2.2 200000 && decide (mSH = fSH)))))) = true := by decide +kernel
end
section
/-! THE LAW'S FIRST SIXTEEN BYTES. -/
theorem LR_gen {G G2 : xG} {ls : Array Slot} {L : List xV} (h : ∀ v ∈ L, v.1 = 9 ∨ mkV G2 v = mkV G v) (hL : LR G ls L) : LR G2 ls L := by
  refine ⟨hL.1, hL.2.1, fun i v hi h9 => ?_⟩
  rcases h v (List.mem_of_getElem? hi) with q | q
  · exact absurd q h9
  · rw [q]; exact hL.2.2 i v hi h9
set_option maxRecDepth 100000 in
theorem sa_mts : mts[kMo_startsAnew]? = some (9, 0, ⟨"RouteStridesModel", "startsAnew", "()V"⟩, 2, none, 1147, 138, 1146, 46, 0) := by rfl
set_option maxRecDepth 100000 in
theorem lt_mts : mts[kMo_laysTable]? = some (9, 0, ⟨"RouteStridesModel", "laysTable", "(I[II)V"⟩, 7, none, 1151, 138, 1150, 47, 3) := by rfl
set_option maxRecDepth 100000 in
theorem lw_mts : mts[263]? = some (10, 1, ⟨"RouteStridesLaw", "law", "([I)Z"⟩, 4, some .boolean, 0, 0, 0, 0, 1) := by rfl
theorem kt8 : kts[8]? = some (⟨"RouteStrides", "<init>", "()V"⟩, 2, 150, 129, 149) := rfl
theorem kt9 : kts[9]? = some (⟨"RouteStridesModel", "<init>", "()V"⟩, 1, 1141, 138, 1140) := rfl
theorem d9_271 : decode (xbyt 1141) 271 = .ok (.aload_n 0, 1) := by decide +kernel
theorem d9_272 : decode (xbyt 1141) 272 = .ok (.invokevirtual 110, 3) := by decide +kernel
theorem d9_275 : decode (xbyt 1141) 275 = .ok (.aload_n 0, 1) := by decide +kernel
theorem d9_276 : decode (xbyt 1141) 276 = .ok (.iconst 0, 1) := by decide +kernel
theorem d9_277 : decode (xbyt 1141) 277 = .ok (.aload_n 0, 1) := by decide +kernel
theorem d9_278 : decode (xbyt 1141) 278 = .ok (.getfield 7, 3) := by decide +kernel
theorem d9_281 : decode (xbyt 1141) 281 = .ok (.iconst 0, 1) := by decide +kernel
theorem d9_282 : decode (xbyt 1141) 282 = .ok (.invokevirtual 113, 3) := by decide +kernel
theorem dl_0 : decode code 0 = .ok (.new 7, 3) := by decide +kernel
theorem dl_3 : decode code 3 = .ok (.dup, 1) := by decide +kernel
theorem dl_4 : decode code 4 = .ok (.invokespecial 9, 3) := by decide +kernel
theorem dl_7 : decode code 7 = .ok (.astore_n 1, 1) := by decide +kernel
theorem dl_8 : decode code 8 = .ok (.new 10, 3) := by decide +kernel
theorem dl_11 : decode code 11 = .ok (.dup, 1) := by decide +kernel
theorem dl_12 : decode code 12 = .ok (.invokespecial 12, 3) := by decide +kernel
theorem dl_15 : decode code 15 = .ok (.astore_n 2, 1) := by decide +kernel
theorem ml_135 : mls[135]? = some (9, 110, kMo_startsAnew, 0, (mls.getD 135 default).2.2.2.2) := by decide +kernel
theorem ml_136 : mls[136]? = some (9, 113, kMo_laysTable, 0, (mls.getD 136 default).2.2.2.2) := by decide +kernel
theorem fl_125 : fls[125]? = some (9, 7, 9, 0, (fls.getD 125 default).2.2.2.2) := by decide +kernel
theorem lk_1 : kLk 0 10 9 148 ⟨"RouteStrides", "<init>", "()V"⟩ := show lw_tbl[148]? = some (Cond.methodLink (xcn 10) 9 ⟨"RouteStrides", "<init>", "()V"⟩) by decide +kernel
theorem lk_2 : kLk 0 10 12 1139 ⟨"RouteStridesModel", "<init>", "()V"⟩ := show lw_tbl[1139]? = some (Cond.methodLink (xcn 10) 12 ⟨"RouteStridesModel", "<init>", "()V"⟩) by decide +kernel
theorem tabB_ok {SH : xSH} {P : List cO} {a n : Nat} {B : xM} (hB : ∀ b j : Nat, B b j = 0) (h : tabB SH P a n = true) : SH[a]? = some (14, n) ∧ ∀ j : Nat, j < n → 0 < cM B P a j ∧ SH[(cM B P a j - 1).toNat]? = some (2, xTab) := by
  unfold tabB at h
  rw [Bool.and_eq_true] at h
  refine ⟨of_decide_eq_true h.1, fun j hj => ?_⟩
  have h1 := List.all_eq_true.mp h.2 j (List.mem_range.mpr hj)
  simp only [Bool.and_eq_true, decide_eq_true_eq] at h1
  rw [rd_ok hB]
  exact h1
/-- the model's constructor: its contract out of what its two last calls do -/
theorem mo_met {cA : Nat → ClassId} {D : va_G} {A : Nat → Prop} {Ls : Nat} {xs : Nat → Int32} {l : Launch} {N0 : Nat} {G : xG} {Init : xM → Prop} (hA : ∀ q, N0 ≤ q → A q) (hTF : kTF cA D A Ls xs l)
    (hT1 : ∀ G : xG, xSim fSH G cA D A Ls xs l 1300 kMo_startsAnew 0 (lay [xO 9 198] 2) [] (cM (bM Ls xs) mP) (fun _ N => xSim fSH G cA D A Ls xs l 1300 kMo_laysTable 0 (lay [xO 9 198, xI 0, xAI 259 199, xI 0] 7) [] N (fun _ N2 => Init N2)))
    (hD : va_D A (xW (mSH0 ++ [(13, 9)]) G cA (cM (bM Ls xs) mP0))) (hM : okM (mSH0 ++ [(13, 9)]) (cM (bM Ls xs) mP0)) (hO : okO (mSH0 ++ [(13, 9)]) (cM (bM Ls xs) mP0)) (hS : xScr Ls xs (cM (bM Ls xs) mP0)) :
    Met l ⟨"RouteStridesModel", "<init>", "()V"⟩ (Cond.code ⟨"RouteStridesModel", "<init>", "()V"⟩ (xbyt 1141) 1 none :: xTT) { frames := 1301 + 8, cells := moR.2.2.2.2.2.1, slots := moR.2.2.2.2.2.2, locals := 60 * 1301 + 200 } (va_Pc [.ref (G.1 198)] (kPre (mSH0 ++ [(13, 9)]) G cA D A Ls xs N0 (cM (bM Ls xs) mP0))) (kQc fSH G cA D A Ls xs 199 Init) moR.2.2.2.2.2.1 moR.2.2.2.2.2.2 A := by
  have hb := mo_b
  simp only [Bool.and_eq_true, decide_eq_true_eq] at hb
  obtain ⟨b1, b2, b3, -, -, b6⟩ := hb
  have hr := rs_b
  simp only [Bool.and_eq_true, decide_eq_true_eq] at hr
  obtain ⟨-, -, -, -, -, -, r7, r8⟩ := hr
  have r7 := Nat.eq_of_beq_eq_true r7
  have hlen : (mSH0 ++ [(13, 9)]).length = 199 := by rw [List.length_append, r7]; rfl
  have hpl : ∀ q ∈ mP0, q.2.1 < (mSH0 ++ [(13, 9)]).length := by
    intro q hq
    have h1 : q.2.1 < 198 := Nat.le_of_ble_eq_true (List.all_eq_true.mp r8 q hq)
    rw [hlen]
    omega
  obtain ⟨-, -, -, -, hs⟩ := c_sound (N0 := N0) (bM_0 (Ls := Ls) (xs := xs)) hA hTF _ _ _ _ _ _ _ _ _ _ _ _ mo_eq
  have hmo : moR = (271, [rV 198], [], moR.2.2.2.1, moR.2.2.2.2.1, moR.2.2.2.2.2.1, moR.2.2.2.2.2.2) := by
    rw [← b1, ← b2, ← b3]
  rw [hmo] at hs
  have hm := k_met (N0 := N0) (z := 0) (a := 198) (G := G) (SH2 := fSH) (Qm := Init) kt9 (kok_at kt9) hA (by rw [hlen]; omega) hs hD hM hO hpl hS ?_
  · rw [hlen] at hm
    exact hm
  · intro G2 p e R s m below meth c Qf H locs ls hcx hrc hrs hag hin kk
    obtain ⟨q, hq, hx, hb, hml, hown, hts, hst, hrf, hrl, hnm, hax, hN⟩ := id hcx
    rw [kt9] at hq
    cases hq
    obtain ⟨hDy, hO2, hPl, hL, hlen2, hLo, -⟩ := hin
    have hDy1 : xDyn fSH G2 cA D A Ls xs s.heap (cM (bM Ls xs) mP) H locs := by
      have h1 := (cDone_ok bM_0 198 hDy hO2).1
      rw [← b6]
      exact h1
    have hl0 : ls[0]? = some (.val (.ref (G2.1 198))) := hL.2.2 0 (rV 198) rfl (by decide)
    have hls : ls.size = 1 := hL.1
    have hsh : fSH[198]? = some (2, 9) := by rfl
    refine lv_aload_n hx hb d9_271 rfl hl0 ?_
    refine k_virt (As := []) (b := 198) (rest := []) sa_mts (by decide) (hT1 G2) (show 1 ≤ 2 by decide) (fun _ hv => by cases hv) rfl hx hb hml hown hts hst hDy1 hsh (mls_at ml_135) (by omega) (by omega) hrc hrs hls (by decide) d9_272 (fun r N H1 locs1 hN1 hDy2 => ?_)
    refine lv_aload_n hx hb d9_275 rfl hl0 ?_
    refine lv_iconst hx hb d9_276 rfl ?_
    refine lv_aload_n hx hb d9_277 rfl hl0 ?_
    obtain ⟨C, TF, NN, hcl, hkf, hC1, hlk⟩ := fls_at fl_125
    obtain ⟨hn, hws, hcn, -⟩ := xcl_ok _ _ hcl
    dsimp only at hn hws hcn
    refine va_get (D := D) hx hb hts hws hown hst.1 hDy2.1 198 (xW_at hsh) hcl 0 hkf (hts _ hlk) (fun _ z => z) (v := .ref (G2.1 199)) ?_ d9_278 ?_
    · rw [xfl_at (by rw [hn]; exact hkf)]
      rfl
    · refine lv_iconst hx hb d9_281 rfl ?_
      exact k_virt (As := [xI 0, xAI 259 199, xI 0]) (b := 198) (rest := []) lt_mts (by decide) hN1 (show 4 ≤ 7 by decide) (by
        intro v hv
        simp only [List.mem_cons, List.not_mem_nil, or_false] at hv
        rcases hv with rfl | rfl | rfl
        · exact ⟨by decide, by decide⟩
        · exact ⟨by decide, rfl⟩
        · exact ⟨by decide, by decide⟩) rfl hx hb hml hown hts hst hDy2 hsh (mls_at ml_136) (by omega) (by omega) hrc hrs hls (by decide) d9_282 (fun r N2 H2 locs2 hN2 hDy3 => kk G2 N2 H2 locs2 ls hag hN2 hDy3)
set_option maxHeartbeats 1000000 in
theorem law_start {p : Program} {e : Env} {s : State} {m : MethodId} {below : List Frame} {meth : Method} {c : Code} {l : Launch} {b L : Nat} {xs : Nat → Int32} {Qf : State → Prop} {Init : xM → Prop} (hx : p.tables.exec = Jvm.exec) (hb : c.code = code) (hml : c.maxLocals = 4) (hown : s.vm.findClass "RouteStridesLaw" = some m.cls) (hts : ∀ w ∈ lw_tbl, w.before #[Value.ref b] s = true) (hgv : (Jvm.Cond.and given_1 narrow_1).before #[Value.ref b] s = true) (hX : va_X b L xs s s.heap) (hbl : b < s.heap.size) (hL : L ≤ 3072)
    (hTF : ∀ (cA : Nat → ClassId) (D : va_G) (A : Nat → Prop), kTF cA D A L xs l)
    (hT1 : ∀ (G : xG) (cA : Nat → ClassId) (D : va_G) (A : Nat → Prop), xSim fSH G cA D A L xs l 1300 kMo_startsAnew 0 (lay [xO 9 198] 2) [] (cM (bM L xs) mP) (fun _ N => xSim fSH G cA D A L xs l 1300 kMo_laysTable 0 (lay [xO 9 198, xI 0, xAI 259 199, xI 0] 7) [] N (fun _ N2 => Init N2)))
    (hLaw : ∀ (G : xG) (cA : Nat → ClassId) (D : va_G) (A : Nat → Prop) (N : xM), Init N → xSim fSH G cA D A L xs l 1300 263 16 [xX, xO 8 0, xO 9 198, xU] [] N (fun r _ => r = xI 1))
    (hRet : ∀ (H : Heap) (pc : Nat) (ls : Array Slot), decode code pc = .ok (.ireturn, 1) → W p l e room_1 s m #[Value.ref b] below meth c H [] 600000 7302250 Qf (F0 m pc ls [.int 1])) :
    W p l e room_1 s m #[Value.ref b] below meth c s.heap [] 0 0 Qf (entryFrame m ([Value.ref b] : List Value).toArray 4) := by
  obtain ⟨G, cA, D, hGb, hst, hax⟩ := k_start hts hgv hX hbl
  have htx : ∀ w ∈ xTT, w.before #[Value.ref b] s = true := fun w hw => hts w (tt_tbl hw)
  have hA : ∀ q : Nat, s.heap.size ≤ q → (fun q : Nat => s.heap.size ≤ q) q := fun _ h => h
  have hrb := rs_b
  simp only [Bool.and_eq_true, decide_eq_true_eq] at hrb
  obtain ⟨r1, r2, r3, r4, r5, r6, r7, r8⟩ := hrb
  have r3 := Nat.le_of_ble_eq_true r3
  have r4 := Nat.le_of_ble_eq_true r4
  have r7 := Nat.eq_of_beq_eq_true r7
  have hmb := mo_b
  simp only [Bool.and_eq_true, decide_eq_true_eq] at hmb
  obtain ⟨-, -, -, m4, m5, -⟩ := hmb
  have m4 := Nat.le_of_ble_eq_true m4
  have m5 := Nat.le_of_ble_eq_true m5
  have hLR := LR_entry (G := G) (as := [xX]) (n := 4) (show 1 ≤ 4 by decide)
  rw [lg_entry_eq]
  have e0 : ([Value.ref b] : List Value) = [xX].map (mkV G) := by
    show [Value.ref b] = [Value.ref G.2.2]
    rw [hGb]
  rw [e0]
  generalize (lg_sl ([xX].map (mkV G)) ++ List.replicate (4 - (lg_sl ([xX].map (mkV G))).length) Slot.unset).toArray = ls at hLR ⊢
  rw [← e0]
  have hLR : LR G ls [xX, xU, xU, xU] := hLR
  have hDy0 : xDyn [] G cA D (fun q : Nat => s.heap.size ≤ q) L xs s.heap (cM (bM L xs) []) s.heap [] := ⟨fun k q h => by simp [xW] at h, ⟨fun i j p q h => by simp [xW] at h, fun k q h => by simp [xW] at h⟩, va_S.rf, fun a sh h => by simp at h, ⟨rfl, hL, fun j _ => by
    show bM L xs (-1) ((j : Int) + 1) = _
    unfold bM
    rw [if_pos rfl, if_neg (by omega), show ((j : Int) + 1 - 1).toNat = j by omega]⟩⟩
  have hO0 : okO [] (cM (bM L xs) []) := ⟨fun a n h => by simp at h, fun a n h => by simp at h⟩
  refine c_new (C := RX8) (T := TX8) (N := 17) (own := xcn 10) hx hb htx hst hDy0 hO0 (fun j => bM_0 0 j) hA hown (ci := 8) rfl w_l1 w_in8 w_n1 (by decide) (by decide) dl_0 (def_ok (ci := 8) rfl) (fun q1 H1 hDy1 hO1 => ?_)
  have hDy1 : xDyn [(13, 8)] (gx G 0 q1) cA D (fun q : Nat => s.heap.size ≤ q) L xs s.heap (cM (bM L xs) []) H1 [] := hDy1
  have hO1 : okO [(13, 8)] (cM (bM L xs) []) := hO1
  have hst1 : xStat (gx G 0 q1) cA D (fun q : Nat => s.heap.size ≤ q) L xs s := xStat_g rfl hst
  have hLR1 : LR (gx G 0 q1) ls [xX, xU, xU, xU] := LR_gen (fun v hv => by
    simp only [List.mem_cons, List.not_mem_nil, or_false] at hv
    rcases hv with rfl | rfl | rfl | rfl
    · exact Or.inr rfl
    · exact Or.inl rfl
    · exact Or.inl rfl
    · exact Or.inl rfl) hLR
  have eq1 : (gx G 0 q1).1 0 = q1 := gx_at
  refine lv_dup hx hb dl_3 rfl ?_
  -- the class is made
  have hrs : rsR = (kR 8, rsR.2.1, [], rsR.2.2.2.1, rsR.2.2.2.2.1, rsR.2.2.2.2.2.1, rsR.2.2.2.2.2.2) := by
    rw [← r1, ← r2]
  obtain ⟨-, -, -, -, hs1⟩ := c_sound (N0 := s.heap.size) (bM_0 (Ls := L) (xs := xs)) hA (hTF cA D _) _ _ _ _ _ _ _ _ _ _ _ _ rs_eq
  rw [hrs] at hs1
  have hMet1 := k_met (N0 := s.heap.size) (z := 0) (a := 0) (G := gx G 0 q1) (SH2 := rsSH) (Qm := fun N => N = cM (bM L xs) rsP ∧ okO rsSH (cM (bM L xs) rsP)) kt8 (kok_at kt8) hA (by decide) hs1 hDy1.2.1 hDy1.2.2.2.1 hO1 (fun _ h => by cases h) hDy1.2.2.2.2 (fun G2 p e R s m below meth c Qf H locs ls _ _ _ hg2 hin2 kk2 => kk2 G2 _ H locs ls hg2 ⟨rfl, hin2.2.1⟩ hin2.1)
  rw [eq1] at hMet1
  refine k_inv (own := 10) kt8 (kok_at kt8) hMet1 hx hb hml hown htx hst1 hax (Nat.le_refl _) hDy1 lk_1 (by decide) (by decide) (by show 0 + 1 + _ ≤ 600000; omega) (by show 0 + 17 + _ ≤ 7302250; omega) hLR1.1 (show 1 ≤ 8 by decide) dl_4 (fun G2 N H2 locs2 hg2 hN2 hDy2 => ?_)
  obtain ⟨hN2, hO2⟩ := hN2
  rw [hN2] at hDy2
  obtain ⟨t1, t2⟩ := tabB_ok (bM_0 (Ls := L) (xs := xs)) r5
  obtain ⟨hDy3, hO3⟩ := c_doneT hDy2 hO2 t1 t2
  have hDy3 : xDyn (rsSH.set 17 (6, 10)) G2 cA D (fun q : Nat => s.heap.size ≤ q) L xs s.heap (cM (bM L xs) ((2, 17, 0, 0) :: rsP)) H2 locs2 := hDy3
  obtain ⟨t3, t4⟩ := tabB_ok (bM_0 (Ls := L) (xs := xs)) r6
  obtain ⟨hDy4, hO4⟩ := c_doneT hDy3 hO3 t3 t4
  have hDy4 : xDyn ((rsSH.set 17 (6, 10)).set 18 (6, 2)) G2 cA D (fun q : Nat => s.heap.size ≤ q) L xs s.heap (cM (bM L xs) mP0) H2 locs2 := hDy4
  obtain ⟨hDy5, hO5⟩ := cDone_ok (bM_0 (Ls := L) (xs := xs)) 0 hDy4 hO4
  have hDy5 : xDyn mSH0 G2 cA D (fun q : Nat => s.heap.size ≤ q) L xs s.heap (cM (bM L xs) mP0) H2 locs2 := hDy5
  have hO5 : okO mSH0 (cM (bM L xs) mP0) := hO5
  have hst2 : xStat G2 cA D (fun q : Nat => s.heap.size ≤ q) L xs s := xStat_g hg2.1 hst1
  have hLR2 : LR G2 ls [xX, xU, xU, xU] := LR_gen (fun v hv => by
    simp only [List.mem_cons, List.not_mem_nil, or_false] at hv
    rcases hv with rfl | rfl | rfl | rfl
    · exact Or.inr (congrArg (fun z : Nat × Nat => Value.ref z.2) hg2.1)
    · exact Or.inl rfl
    · exact Or.inl rfl
    · exact Or.inl rfl) hLR1
  have eq2 : q1 = G2.1 0 := by rw [hg2.2 0 (by decide), eq1]
  rw [eq2]
  refine lv_astore_n hx hb dl_7 rfl (LR_has hLR2) (by decide) rfl (fun ls3 hl3 => ?_)
  have hLR3 : LR G2 ls3 [xX, xO 8 0, xU, xU] := LR_st1 (L := [xX, xU, xU, xU]) (i := 1) (v := xO 8 0) hl3
  have hpl : ∀ q ∈ mP0, q.2.1 < mSH0.length := by
    intro q hq
    have h1 : q.2.1 < 198 := Nat.le_of_ble_eq_true (List.all_eq_true.mp r8 q hq)
    rw [r7]
    exact h1
  refine c_new (C := RX9) (T := TX9) (N := 52) (own := xcn 10) hx hb htx hst2 hDy5 hO5 (fun j => by rw [rd_ok bM_0]; exact rd_out hpl (Nat.le_refl _)) hA hown (ci := 9) rfl w_l2 w_in9 w_n2 (by show 0 + 1 + _ + 1 ≤ 600000; omega) (by show 0 + 17 + _ + 52 ≤ 7302250; omega) dl_8 (def_ok (ci := 9) rfl) (fun q6 H6 hDy6 hO6 => ?_)
  rw [r7] at hDy6
  have hst6 : xStat (gx G2 198 q6) cA D (fun q : Nat => s.heap.size ≤ q) L xs s := xStat_g rfl hst2
  have hLR6 : LR (gx G2 198 q6) ls3 [xX, xO 8 0, xU, xU] := LR_gen (fun v hv => by
    simp only [List.mem_cons, List.not_mem_nil, or_false] at hv
    rcases hv with rfl | rfl | rfl | rfl
    · exact Or.inr rfl
    · exact Or.inr (congrArg Value.ref (gx_lt (by decide)))
    · exact Or.inl rfl
    · exact Or.inl rfl) hLR3
  have eq6 : (gx G2 198 q6).1 198 = q6 := gx_at
  refine lv_dup hx hb dl_11 rfl ?_
  have hMet2 := mo_met (N0 := s.heap.size) (G := gx G2 198 q6) (Init := Init) hA (hTF cA D _) (fun G => hT1 G cA D _) hDy6.2.1 hDy6.2.2.2.1 hO6 hDy6.2.2.2.2
  rw [eq6] at hMet2
  refine k_inv (own := 10) kt9 (kok_at kt9) hMet2 hx hb hml hown htx hst6 hax (Nat.le_refl _) hDy6 lk_2 (by decide) (by decide) (by show 0 + 1 + _ + 1 + _ ≤ 600000; omega) (by show 0 + 17 + _ + 52 + _ ≤ 7302250; omega) hLR6.1 (show 1 ≤ 8 by decide) dl_12 (fun G7 N H7 locs7 hg7 hN7 hDy7 => ?_)
  have hLR7 : LR G7 ls3 [xX, xO 8 0, xU, xU] := LR_gen (fun v hv => by
    simp only [List.mem_cons, List.not_mem_nil, or_false] at hv
    rcases hv with rfl | rfl | rfl | rfl
    · exact Or.inr (congrArg (fun z : Nat × Nat => Value.ref z.2) hg7.1)
    · exact Or.inr (congrArg Value.ref (hg7.2 0 (by decide)))
    · exact Or.inl rfl
    · exact Or.inl rfl) hLR6
  have eq7 : q6 = G7.1 198 := by rw [hg7.2 198 (by decide), eq6]
  rw [eq7]
  refine lv_astore_n hx hb dl_15 rfl (LR_has hLR7) (by decide) rfl (fun ls8 hl8 => ?_)
  have hLR8 : LR G7 ls8 [xX, xO 8 0, xO 9 198, xU] := LR_st1 (L := [xX, xO 8 0, xU, xU]) (i := 2) (v := xO 9 198) hl8
  have hst7 : xStat G7 cA D (fun q : Nat => s.heap.size ≤ q) L xs s := xStat_g hg7.1 hst6
  refine hLaw G7 cA D (fun q : Nat => s.heap.size ≤ q) N hN7 _ p e room_1 s m #[Value.ref b] below meth c _ _ Qf ⟨lw_mts, hx, hb, hml, hown, htx, hst7, by decide, by decide, ?_, ?_⟩ ?_ H7 locs7 ls8 hDy7 hLR8 rfl ?_ (fun _ h => by cases h)
  · show 0 + 1 + _ + 1 + _ ≤ 600000; omega
  · show 0 + 17 + _ + 52 + _ ≤ 7302250; omega
  · intro v N9 H9 locs9 pc9 ls9 ins9 hv hok hdy9 hd9 hret9
    subst hv
    obtain ⟨rfl, -⟩ := hret9
    have hd9 : decode code pc9 = .ok (.ireturn, 1) := hd9
    refine va_forget (fun q hq => hdy9.2.2.1.2.2 q hq) (W.widen (k := 600000) (n := 7302250) ?_ ?_ (hRet H9 pc9 ls9 hd9))
    · show 0 + 1 + _ + 1 + _ ≤ 600000; omega
    · show 0 + 17 + _ + 52 + _ ≤ 7302250; omega
  · intro v hv
    simp only [List.mem_cons, List.not_mem_nil, or_false] at hv
    rcases hv with rfl | rfl | rfl | rfl
    · trivial
    · exact ⟨by decide, rfl⟩
    · exact ⟨by decide, rfl⟩
    · trivial
end
