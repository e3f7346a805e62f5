section
-- ===== PART A: goes FIRST, ahead of the names: the tables' words, and 'selects' of the private methods out of them =====
/-- a private method of a class that the tables say can be made, by its rows of tables_1 -/
def lw_okq (q : MethodName × Nat) : Prop := (q.1.cls ≠ "java/lang/invoke/MethodHandle" ∧ q.1.cls ≠ "java/lang/invoke/VarHandle") ∧ Cond.instantiable q.1.cls q.2 ∈ tables_1 ∧ Cond.privateMethod q.1 ∈ tables_1 ∧ Cond.instanceMethod q.1 ∈ tables_1
theorem lw_p0 : lw_okq (⟨"AreaTree$Tree", "numberFrom", "(II)V"⟩, 10) := ⟨⟨by decide +kernel, by decide +kernel⟩, List.mem_of_getElem? (i := 128) (by decide +kernel), List.mem_of_getElem? (i := 169) (by decide +kernel), List.mem_of_getElem? (i := 170) (by decide +kernel)⟩
theorem lw_p1 : lw_okq (⟨"AreaTree$Tree", "leastGrowing", "(II)I"⟩, 10) := ⟨⟨by decide +kernel, by decide +kernel⟩, List.mem_of_getElem? (i := 128) (by decide +kernel), List.mem_of_getElem? (i := 388) (by decide +kernel), List.mem_of_getElem? (i := 389) (by decide +kernel)⟩
theorem lw_p2 : lw_okq (⟨"AreaTree$Store", "attachAt", "(III)V"⟩, 17) := ⟨⟨by decide +kernel, by decide +kernel⟩, List.mem_of_getElem? (i := 27) (by decide +kernel), List.mem_of_getElem? (i := 409) (by decide +kernel), List.mem_of_getElem? (i := 410) (by decide +kernel)⟩
theorem lw_p3 : lw_okq (⟨"AreaTree$Store", "placeAt", "(III)V"⟩, 17) := ⟨⟨by decide +kernel, by decide +kernel⟩, List.mem_of_getElem? (i := 27) (by decide +kernel), List.mem_of_getElem? (i := 414) (by decide +kernel), List.mem_of_getElem? (i := 415) (by decide +kernel)⟩
theorem lw_p4 : lw_okq (⟨"AreaTree$Tree", "splitUpwards", "(I)V"⟩, 10) := ⟨⟨by decide +kernel, by decide +kernel⟩, List.mem_of_getElem? (i := 128) (by decide +kernel), List.mem_of_getElem? (i := 418) (by decide +kernel), List.mem_of_getElem? (i := 419) (by decide +kernel)⟩
theorem lw_p5 : lw_okq (⟨"AreaTree$Splitter", "pourOut", "(I)V"⟩, 5) := ⟨⟨by decide +kernel, by decide +kernel⟩, List.mem_of_getElem? (i := 134) (by decide +kernel), List.mem_of_getElem? (i := 426) (by decide +kernel), List.mem_of_getElem? (i := 427) (by decide +kernel)⟩
theorem lw_p6 : lw_okq (⟨"AreaTree$Splitter", "findSeeds", "()V"⟩, 5) := ⟨⟨by decide +kernel, by decide +kernel⟩, List.mem_of_getElem? (i := 134) (by decide +kernel), List.mem_of_getElem? (i := 432) (by decide +kernel), List.mem_of_getElem? (i := 433) (by decide +kernel)⟩
theorem lw_p7 : lw_okq (⟨"AreaTree$Splitter", "takeLeft", "(I)I"⟩, 5) := ⟨⟨by decide +kernel, by decide +kernel⟩, List.mem_of_getElem? (i := 134) (by decide +kernel), List.mem_of_getElem? (i := 439) (by decide +kernel), List.mem_of_getElem? (i := 440) (by decide +kernel)⟩
theorem lw_p8 : lw_okq (⟨"AreaTree$Splitter", "needsAll", "(I)Z"⟩, 5) := ⟨⟨by decide +kernel, by decide +kernel⟩, List.mem_of_getElem? (i := 134) (by decide +kernel), List.mem_of_getElem? (i := 444) (by decide +kernel), List.mem_of_getElem? (i := 445) (by decide +kernel)⟩
theorem lw_p9 : lw_okq (⟨"AreaTree$Splitter", "mostDecided", "(II)I"⟩, 5) := ⟨⟨by decide +kernel, by decide +kernel⟩, List.mem_of_getElem? (i := 134) (by decide +kernel), List.mem_of_getElem? (i := 448) (by decide +kernel), List.mem_of_getElem? (i := 449) (by decide +kernel)⟩
theorem lw_p10 : lw_okq (⟨"AreaTree$Splitter", "fitting", "(III)I"⟩, 5) := ⟨⟨by decide +kernel, by decide +kernel⟩, List.mem_of_getElem? (i := 134) (by decide +kernel), List.mem_of_getElem? (i := 455) (by decide +kernel), List.mem_of_getElem? (i := 456) (by decide +kernel)⟩
theorem lw_p11 : lw_okq (⟨"AreaTree$Tree", "raiseRoot", "(I)V"⟩, 10) := ⟨⟨by decide +kernel, by decide +kernel⟩, List.mem_of_getElem? (i := 128) (by decide +kernel), List.mem_of_getElem? (i := 460) (by decide +kernel), List.mem_of_getElem? (i := 461) (by decide +kernel)⟩
theorem lw_p12 : lw_okq (⟨"AreaTree$Store", "indexIn", "(II)I"⟩, 17) := ⟨⟨by decide +kernel, by decide +kernel⟩, List.mem_of_getElem? (i := 27) (by decide +kernel), List.mem_of_getElem? (i := 468) (by decide +kernel), List.mem_of_getElem? (i := 469) (by decide +kernel)⟩
theorem lw_p13 : lw_okq (⟨"AreaTree$Tree", "thinUpwards", "(I)V"⟩, 10) := ⟨⟨by decide +kernel, by decide +kernel⟩, List.mem_of_getElem? (i := 128) (by decide +kernel), List.mem_of_getElem? (i := 489) (by decide +kernel), List.mem_of_getElem? (i := 490) (by decide +kernel)⟩
theorem lw_p14 : lw_okq (⟨"AreaTree$Tree", "dissolve", "(I)V"⟩, 10) := ⟨⟨by decide +kernel, by decide +kernel⟩, List.mem_of_getElem? (i := 128) (by decide +kernel), List.mem_of_getElem? (i := 493) (by decide +kernel), List.mem_of_getElem? (i := 494) (by decide +kernel)⟩
theorem lw_p15 : lw_okq (⟨"AreaTree$Tree", "lowerRoot", "()V"⟩, 10) := ⟨⟨by decide +kernel, by decide +kernel⟩, List.mem_of_getElem? (i := 128) (by decide +kernel), List.mem_of_getElem? (i := 506) (by decide +kernel), List.mem_of_getElem? (i := 507) (by decide +kernel)⟩
def lw_privs_1 : List (MethodName × Nat) := [(⟨"AreaTree$Tree", "numberFrom", "(II)V"⟩, 10), (⟨"AreaTree$Tree", "leastGrowing", "(II)I"⟩, 10), (⟨"AreaTree$Store", "attachAt", "(III)V"⟩, 17), (⟨"AreaTree$Store", "placeAt", "(III)V"⟩, 17), (⟨"AreaTree$Tree", "splitUpwards", "(I)V"⟩, 10), (⟨"AreaTree$Splitter", "pourOut", "(I)V"⟩, 5), (⟨"AreaTree$Splitter", "findSeeds", "()V"⟩, 5), (⟨"AreaTree$Splitter", "takeLeft", "(I)I"⟩, 5), (⟨"AreaTree$Splitter", "needsAll", "(I)Z"⟩, 5), (⟨"AreaTree$Splitter", "mostDecided", "(II)I"⟩, 5), (⟨"AreaTree$Splitter", "fitting", "(III)I"⟩, 5), (⟨"AreaTree$Tree", "raiseRoot", "(I)V"⟩, 10), (⟨"AreaTree$Store", "indexIn", "(II)I"⟩, 17), (⟨"AreaTree$Tree", "thinUpwards", "(I)V"⟩, 10), (⟨"AreaTree$Tree", "dissolve", "(I)V"⟩, 10), (⟨"AreaTree$Tree", "lowerRoot", "()V"⟩, 10)]
theorem lw_r1 : ∀ q ∈ lw_privs_1, lw_okq q := List.forall_mem_cons.mpr ⟨lw_p0, List.forall_mem_cons.mpr ⟨lw_p1, List.forall_mem_cons.mpr ⟨lw_p2, List.forall_mem_cons.mpr ⟨lw_p3, List.forall_mem_cons.mpr ⟨lw_p4, List.forall_mem_cons.mpr ⟨lw_p5, List.forall_mem_cons.mpr ⟨lw_p6, List.forall_mem_cons.mpr ⟨lw_p7, List.forall_mem_cons.mpr ⟨lw_p8, List.forall_mem_cons.mpr ⟨lw_p9, List.forall_mem_cons.mpr ⟨lw_p10, List.forall_mem_cons.mpr ⟨lw_p11, List.forall_mem_cons.mpr ⟨lw_p12, List.forall_mem_cons.mpr ⟨lw_p13, List.forall_mem_cons.mpr ⟨lw_p14, List.forall_mem_cons.mpr ⟨lw_p15, fun _ h => absurd h List.not_mem_nil⟩⟩⟩⟩⟩⟩⟩⟩⟩⟩⟩⟩⟩⟩⟩⟩
theorem lw_p16 : lw_okq (⟨"AreaTree$Walk", "nextInLeaf", "()I"⟩, 7) := ⟨⟨by decide +kernel, by decide +kernel⟩, List.mem_of_getElem? (i := 241) (by decide +kernel), List.mem_of_getElem? (i := 526) (by decide +kernel), List.mem_of_getElem? (i := 527) (by decide +kernel)⟩
theorem lw_p17 : lw_okq (⟨"AreaTree$Walk", "lookAt", "(I)V"⟩, 7) := ⟨⟨by decide +kernel, by decide +kernel⟩, List.mem_of_getElem? (i := 241) (by decide +kernel), List.mem_of_getElem? (i := 535) (by decide +kernel), List.mem_of_getElem? (i := 536) (by decide +kernel)⟩
theorem lw_p18 : lw_okq (⟨"AreaTree$Search", "push", "(III)V"⟩, 7) := ⟨⟨by decide +kernel, by decide +kernel⟩, List.mem_of_getElem? (i := 271) (by decide +kernel), List.mem_of_getElem? (i := 556) (by decide +kernel), List.mem_of_getElem? (i := 557) (by decide +kernel)⟩
theorem lw_p19 : lw_okq (⟨"AreaTree$Search", "isBefore", "(II)Z"⟩, 7) := ⟨⟨by decide +kernel, by decide +kernel⟩, List.mem_of_getElem? (i := 271) (by decide +kernel), List.mem_of_getElem? (i := 564) (by decide +kernel), List.mem_of_getElem? (i := 565) (by decide +kernel)⟩
theorem lw_p20 : lw_okq (⟨"AreaTree$Search", "pop", "()I"⟩, 7) := ⟨⟨by decide +kernel, by decide +kernel⟩, List.mem_of_getElem? (i := 271) (by decide +kernel), List.mem_of_getElem? (i := 574) (by decide +kernel), List.mem_of_getElem? (i := 575) (by decide +kernel)⟩
theorem lw_p21 : lw_okq (⟨"AreaTree$Search", "lesserBelow", "(I)I"⟩, 7) := ⟨⟨by decide +kernel, by decide +kernel⟩, List.mem_of_getElem? (i := 271) (by decide +kernel), List.mem_of_getElem? (i := 578) (by decide +kernel), List.mem_of_getElem? (i := 579) (by decide +kernel)⟩
theorem lw_p22 : lw_okq (⟨"AreaTree$Search", "read", "(III)V"⟩, 7) := ⟨⟨by decide +kernel, by decide +kernel⟩, List.mem_of_getElem? (i := 271) (by decide +kernel), List.mem_of_getElem? (i := 582) (by decide +kernel), List.mem_of_getElem? (i := 583) (by decide +kernel)⟩
theorem lw_p23 : lw_okq (⟨"AreaTree$Packer", "gather", "()V"⟩, 4) := ⟨⟨by decide +kernel, by decide +kernel⟩, List.mem_of_getElem? (i := 222) (by decide +kernel), List.mem_of_getElem? (i := 613) (by decide +kernel), List.mem_of_getElem? (i := 614) (by decide +kernel)⟩
theorem lw_p24 : lw_okq (⟨"AreaTree$Packer", "sortSlices", "()V"⟩, 4) := ⟨⟨by decide +kernel, by decide +kernel⟩, List.mem_of_getElem? (i := 222) (by decide +kernel), List.mem_of_getElem? (i := 619) (by decide +kernel), List.mem_of_getElem? (i := 620) (by decide +kernel)⟩
theorem lw_p25 : lw_okq (⟨"AreaTree$Packer", "sort", "(IIZ)V"⟩, 4) := ⟨⟨by decide +kernel, by decide +kernel⟩, List.mem_of_getElem? (i := 222) (by decide +kernel), List.mem_of_getElem? (i := 623) (by decide +kernel), List.mem_of_getElem? (i := 624) (by decide +kernel)⟩
theorem lw_p26 : lw_okq (⟨"AreaTree$Packer", "compare", "(IIZ)I"⟩, 4) := ⟨⟨by decide +kernel, by decide +kernel⟩, List.mem_of_getElem? (i := 222) (by decide +kernel), List.mem_of_getElem? (i := 629) (by decide +kernel), List.mem_of_getElem? (i := 630) (by decide +kernel)⟩
theorem lw_p27 : lw_okq (⟨"AreaTree$Packer", "groupsOf", "(I)I"⟩, 4) := ⟨⟨by decide +kernel, by decide +kernel⟩, List.mem_of_getElem? (i := 222) (by decide +kernel), List.mem_of_getElem? (i := 635) (by decide +kernel), List.mem_of_getElem? (i := 636) (by decide +kernel)⟩
theorem lw_p28 : lw_okq (⟨"AreaTree$Packer", "groupInto", "(I)V"⟩, 4) := ⟨⟨by decide +kernel, by decide +kernel⟩, List.mem_of_getElem? (i := 222) (by decide +kernel), List.mem_of_getElem? (i := 641) (by decide +kernel), List.mem_of_getElem? (i := 642) (by decide +kernel)⟩
theorem lw_p29 : lw_okq (⟨"AreaTree$Packer", "startOf", "(II)I"⟩, 4) := ⟨⟨by decide +kernel, by decide +kernel⟩, List.mem_of_getElem? (i := 222) (by decide +kernel), List.mem_of_getElem? (i := 646) (by decide +kernel), List.mem_of_getElem? (i := 647) (by decide +kernel)⟩
theorem lw_p30 : lw_okq (⟨"AreaTree$Auditor", "holdsEnough", "(I)Z"⟩, 2) := ⟨⟨by decide +kernel, by decide +kernel⟩, List.mem_of_getElem? (i := 301) (by decide +kernel), List.mem_of_getElem? (i := 682) (by decide +kernel), List.mem_of_getElem? (i := 683) (by decide +kernel)⟩
theorem lw_p31 : lw_okq (⟨"AreaTree$Auditor", "holdsRightly", "(I)Z"⟩, 2) := ⟨⟨by decide +kernel, by decide +kernel⟩, List.mem_of_getElem? (i := 301) (by decide +kernel), List.mem_of_getElem? (i := 686) (by decide +kernel), List.mem_of_getElem? (i := 687) (by decide +kernel)⟩
def lw_privs_2 : List (MethodName × Nat) := [(⟨"AreaTree$Walk", "nextInLeaf", "()I"⟩, 7), (⟨"AreaTree$Walk", "lookAt", "(I)V"⟩, 7), (⟨"AreaTree$Search", "push", "(III)V"⟩, 7), (⟨"AreaTree$Search", "isBefore", "(II)Z"⟩, 7), (⟨"AreaTree$Search", "pop", "()I"⟩, 7), (⟨"AreaTree$Search", "lesserBelow", "(I)I"⟩, 7), (⟨"AreaTree$Search", "read", "(III)V"⟩, 7), (⟨"AreaTree$Packer", "gather", "()V"⟩, 4), (⟨"AreaTree$Packer", "sortSlices", "()V"⟩, 4), (⟨"AreaTree$Packer", "sort", "(IIZ)V"⟩, 4), (⟨"AreaTree$Packer", "compare", "(IIZ)I"⟩, 4), (⟨"AreaTree$Packer", "groupsOf", "(I)I"⟩, 4), (⟨"AreaTree$Packer", "groupInto", "(I)V"⟩, 4), (⟨"AreaTree$Packer", "startOf", "(II)I"⟩, 4), (⟨"AreaTree$Auditor", "holdsEnough", "(I)Z"⟩, 2), (⟨"AreaTree$Auditor", "holdsRightly", "(I)Z"⟩, 2)]
theorem lw_r2 : ∀ q ∈ lw_privs_2, lw_okq q := List.forall_mem_cons.mpr ⟨lw_p16, List.forall_mem_cons.mpr ⟨lw_p17, List.forall_mem_cons.mpr ⟨lw_p18, List.forall_mem_cons.mpr ⟨lw_p19, List.forall_mem_cons.mpr ⟨lw_p20, List.forall_mem_cons.mpr ⟨lw_p21, List.forall_mem_cons.mpr ⟨lw_p22, List.forall_mem_cons.mpr ⟨lw_p23, List.forall_mem_cons.mpr ⟨lw_p24, List.forall_mem_cons.mpr ⟨lw_p25, List.forall_mem_cons.mpr ⟨lw_p26, List.forall_mem_cons.mpr ⟨lw_p27, List.forall_mem_cons.mpr ⟨lw_p28, List.forall_mem_cons.mpr ⟨lw_p29, List.forall_mem_cons.mpr ⟨lw_p30, List.forall_mem_cons.mpr ⟨lw_p31, fun _ h => absurd h List.not_mem_nil⟩⟩⟩⟩⟩⟩⟩⟩⟩⟩⟩⟩⟩⟩⟩⟩
theorem lw_p32 : lw_okq (⟨"AreaTree$Auditor", "isTight", "(I)Z"⟩, 2) := ⟨⟨by decide +kernel, by decide +kernel⟩, List.mem_of_getElem? (i := 301) (by decide +kernel), List.mem_of_getElem? (i := 691) (by decide +kernel), List.mem_of_getElem? (i := 692) (by decide +kernel)⟩
theorem lw_p33 : lw_okq (⟨"AreaTree$Auditor", "noneIsTwice", "()Z"⟩, 2) := ⟨⟨by decide +kernel, by decide +kernel⟩, List.mem_of_getElem? (i := 301) (by decide +kernel), List.mem_of_getElem? (i := 697) (by decide +kernel), List.mem_of_getElem? (i := 698) (by decide +kernel)⟩
theorem lw_p34 : lw_okq (⟨"AreaTreeModel", "node", "(I)I"⟩, 41) := ⟨⟨by decide +kernel, by decide +kernel⟩, List.mem_of_getElem? (i := 706) (by decide +kernel), List.mem_of_getElem? (i := 712) (by decide +kernel), List.mem_of_getElem? (i := 713) (by decide +kernel)⟩
theorem lw_p35 : lw_okq (⟨"AreaTreeModel", "find", "(IIIII)I"⟩, 41) := ⟨⟨by decide +kernel, by decide +kernel⟩, List.mem_of_getElem? (i := 706) (by decide +kernel), List.mem_of_getElem? (i := 852) (by decide +kernel), List.mem_of_getElem? (i := 853) (by decide +kernel)⟩
theorem lw_p36 : lw_okq (⟨"AreaTreeModel", "put", "(II)V"⟩, 41) := ⟨⟨by decide +kernel, by decide +kernel⟩, List.mem_of_getElem? (i := 706) (by decide +kernel), List.mem_of_getElem? (i := 856) (by decide +kernel), List.mem_of_getElem? (i := 857) (by decide +kernel)⟩
theorem lw_p37 : lw_okq (⟨"AreaTreeModel", "choose", "(III)I"⟩, 41) := ⟨⟨by decide +kernel, by decide +kernel⟩, List.mem_of_getElem? (i := 706) (by decide +kernel), List.mem_of_getElem? (i := 860) (by decide +kernel), List.mem_of_getElem? (i := 861) (by decide +kernel)⟩
theorem lw_p38 : lw_okq (⟨"AreaTreeModel", "heldBy", "(II)I"⟩, 41) := ⟨⟨by decide +kernel, by decide +kernel⟩, List.mem_of_getElem? (i := 706) (by decide +kernel), List.mem_of_getElem? (i := 864) (by decide +kernel), List.mem_of_getElem? (i := 865) (by decide +kernel)⟩
theorem lw_p39 : lw_okq (⟨"AreaTreeModel", "areaOf", "(II)J"⟩, 41) := ⟨⟨by decide +kernel, by decide +kernel⟩, List.mem_of_getElem? (i := 706) (by decide +kernel), List.mem_of_getElem? (i := 868) (by decide +kernel), List.mem_of_getElem? (i := 869) (by decide +kernel)⟩
theorem lw_p40 : lw_okq (⟨"AreaTreeModel", "side", "(III)I"⟩, 41) := ⟨⟨by decide +kernel, by decide +kernel⟩, List.mem_of_getElem? (i := 706) (by decide +kernel), List.mem_of_getElem? (i := 872) (by decide +kernel), List.mem_of_getElem? (i := 873) (by decide +kernel)⟩
theorem lw_p41 : lw_okq (⟨"AreaTreeModel", "areaBoth", "(IIII)J"⟩, 41) := ⟨⟨by decide +kernel, by decide +kernel⟩, List.mem_of_getElem? (i := 706) (by decide +kernel), List.mem_of_getElem? (i := 879) (by decide +kernel), List.mem_of_getElem? (i := 880) (by decide +kernel)⟩
theorem lw_p42 : lw_okq (⟨"AreaTreeModel", "hold", "(II)V"⟩, 41) := ⟨⟨by decide +kernel, by decide +kernel⟩, List.mem_of_getElem? (i := 706) (by decide +kernel), List.mem_of_getElem? (i := 889) (by decide +kernel), List.mem_of_getElem? (i := 890) (by decide +kernel)⟩
theorem lw_p43 : lw_okq (⟨"AreaTreeModel", "measureUp", "(I)V"⟩, 41) := ⟨⟨by decide +kernel, by decide +kernel⟩, List.mem_of_getElem? (i := 706) (by decide +kernel), List.mem_of_getElem? (i := 893) (by decide +kernel), List.mem_of_getElem? (i := 894) (by decide +kernel)⟩
theorem lw_p44 : lw_okq (⟨"AreaTreeModel", "measure", "(I)V"⟩, 41) := ⟨⟨by decide +kernel, by decide +kernel⟩, List.mem_of_getElem? (i := 706) (by decide +kernel), List.mem_of_getElem? (i := 897) (by decide +kernel), List.mem_of_getElem? (i := 898) (by decide +kernel)⟩
theorem lw_p45 : lw_okq (⟨"AreaTreeModel", "split", "(I)V"⟩, 41) := ⟨⟨by decide +kernel, by decide +kernel⟩, List.mem_of_getElem? (i := 706) (by decide +kernel), List.mem_of_getElem? (i := 901) (by decide +kernel), List.mem_of_getElem? (i := 902) (by decide +kernel)⟩
theorem lw_p46 : lw_okq (⟨"AreaTreeModel", "come", "(IIII)I"⟩, 41) := ⟨⟨by decide +kernel, by decide +kernel⟩, List.mem_of_getElem? (i := 706) (by decide +kernel), List.mem_of_getElem? (i := 906) (by decide +kernel), List.mem_of_getElem? (i := 907) (by decide +kernel)⟩
theorem lw_p47 : lw_okq (⟨"AreaTreeModel", "comeBest", "(III)I"⟩, 41) := ⟨⟨by decide +kernel, by decide +kernel⟩, List.mem_of_getElem? (i := 706) (by decide +kernel), List.mem_of_getElem? (i := 910) (by decide +kernel), List.mem_of_getElem? (i := 911) (by decide +kernel)⟩
def lw_privs_3 : List (MethodName × Nat) := [(⟨"AreaTree$Auditor", "isTight", "(I)Z"⟩, 2), (⟨"AreaTree$Auditor", "noneIsTwice", "()Z"⟩, 2), (⟨"AreaTreeModel", "node", "(I)I"⟩, 41), (⟨"AreaTreeModel", "find", "(IIIII)I"⟩, 41), (⟨"AreaTreeModel", "put", "(II)V"⟩, 41), (⟨"AreaTreeModel", "choose", "(III)I"⟩, 41), (⟨"AreaTreeModel", "heldBy", "(II)I"⟩, 41), (⟨"AreaTreeModel", "areaOf", "(II)J"⟩, 41), (⟨"AreaTreeModel", "side", "(III)I"⟩, 41), (⟨"AreaTreeModel", "areaBoth", "(IIII)J"⟩, 41), (⟨"AreaTreeModel", "hold", "(II)V"⟩, 41), (⟨"AreaTreeModel", "measureUp", "(I)V"⟩, 41), (⟨"AreaTreeModel", "measure", "(I)V"⟩, 41), (⟨"AreaTreeModel", "split", "(I)V"⟩, 41), (⟨"AreaTreeModel", "come", "(IIII)I"⟩, 41), (⟨"AreaTreeModel", "comeBest", "(III)I"⟩, 41)]
theorem lw_r3 : ∀ q ∈ lw_privs_3, lw_okq q := List.forall_mem_cons.mpr ⟨lw_p32, List.forall_mem_cons.mpr ⟨lw_p33, List.forall_mem_cons.mpr ⟨lw_p34, List.forall_mem_cons.mpr ⟨lw_p35, List.forall_mem_cons.mpr ⟨lw_p36, List.forall_mem_cons.mpr ⟨lw_p37, List.forall_mem_cons.mpr ⟨lw_p38, List.forall_mem_cons.mpr ⟨lw_p39, List.forall_mem_cons.mpr ⟨lw_p40, List.forall_mem_cons.mpr ⟨lw_p41, List.forall_mem_cons.mpr ⟨lw_p42, List.forall_mem_cons.mpr ⟨lw_p43, List.forall_mem_cons.mpr ⟨lw_p44, List.forall_mem_cons.mpr ⟨lw_p45, List.forall_mem_cons.mpr ⟨lw_p46, List.forall_mem_cons.mpr ⟨lw_p47, fun _ h => absurd h List.not_mem_nil⟩⟩⟩⟩⟩⟩⟩⟩⟩⟩⟩⟩⟩⟩⟩⟩
theorem lw_p48 : lw_okq (⟨"AreaTreeModel", "growth", "(III)J"⟩, 41) := ⟨⟨by decide +kernel, by decide +kernel⟩, List.mem_of_getElem? (i := 706) (by decide +kernel), List.mem_of_getElem? (i := 915) (by decide +kernel), List.mem_of_getElem? (i := 916) (by decide +kernel)⟩
theorem lw_p49 : lw_okq (⟨"AreaTreeModel", "partArea", "(I)J"⟩, 41) := ⟨⟨by decide +kernel, by decide +kernel⟩, List.mem_of_getElem? (i := 706) (by decide +kernel), List.mem_of_getElem? (i := 919) (by decide +kernel), List.mem_of_getElem? (i := 920) (by decide +kernel)⟩
theorem lw_p50 : lw_okq (⟨"AreaTreeModel", "placeIn", "(II)I"⟩, 41) := ⟨⟨by decide +kernel, by decide +kernel⟩, List.mem_of_getElem? (i := 706) (by decide +kernel), List.mem_of_getElem? (i := 923) (by decide +kernel), List.mem_of_getElem? (i := 924) (by decide +kernel)⟩
theorem lw_p51 : lw_okq (⟨"AreaTreeModel", "leafOf", "(I)I"⟩, 41) := ⟨⟨by decide +kernel, by decide +kernel⟩, List.mem_of_getElem? (i := 706) (by decide +kernel), List.mem_of_getElem? (i := 931) (by decide +kernel), List.mem_of_getElem? (i := 932) (by decide +kernel)⟩
theorem lw_p52 : lw_okq (⟨"AreaTreeModel", "takeFrom", "(II)V"⟩, 41) := ⟨⟨by decide +kernel, by decide +kernel⟩, List.mem_of_getElem? (i := 706) (by decide +kernel), List.mem_of_getElem? (i := 935) (by decide +kernel), List.mem_of_getElem? (i := 936) (by decide +kernel)⟩
theorem lw_p53 : lw_okq (⟨"AreaTreeModel", "enter", "(I)V"⟩, 41) := ⟨⟨by decide +kernel, by decide +kernel⟩, List.mem_of_getElem? (i := 706) (by decide +kernel), List.mem_of_getElem? (i := 947) (by decide +kernel), List.mem_of_getElem? (i := 948) (by decide +kernel)⟩
theorem lw_p54 : lw_okq (⟨"AreaTreeModel", "meets", "(IIIIII)Z"⟩, 41) := ⟨⟨by decide +kernel, by decide +kernel⟩, List.mem_of_getElem? (i := 706) (by decide +kernel), List.mem_of_getElem? (i := 951) (by decide +kernel), List.mem_of_getElem? (i := 952) (by decide +kernel)⟩
theorem lw_p55 : lw_okq (⟨"AreaTreeModel", "findOrder", "()V"⟩, 41) := ⟨⟨by decide +kernel, by decide +kernel⟩, List.mem_of_getElem? (i := 706) (by decide +kernel), List.mem_of_getElem? (i := 963) (by decide +kernel), List.mem_of_getElem? (i := 964) (by decide +kernel)⟩
theorem lw_p56 : lw_okq (⟨"AreaTreeModel", "walk", "(I)V"⟩, 41) := ⟨⟨by decide +kernel, by decide +kernel⟩, List.mem_of_getElem? (i := 706) (by decide +kernel), List.mem_of_getElem? (i := 967) (by decide +kernel), List.mem_of_getElem? (i := 968) (by decide +kernel)⟩
theorem lw_p57 : lw_okq (⟨"AreaTreeModel", "isNearer", "(IIII)Z"⟩, 41) := ⟨⟨by decide +kernel, by decide +kernel⟩, List.mem_of_getElem? (i := 706) (by decide +kernel), List.mem_of_getElem? (i := 971) (by decide +kernel), List.mem_of_getElem? (i := 972) (by decide +kernel)⟩
theorem lw_p58 : lw_okq (⟨"AreaTreeModel", "far", "(IIII)J"⟩, 41) := ⟨⟨by decide +kernel, by decide +kernel⟩, List.mem_of_getElem? (i := 706) (by decide +kernel), List.mem_of_getElem? (i := 975) (by decide +kernel), List.mem_of_getElem? (i := 976) (by decide +kernel)⟩
theorem lw_p59 : lw_okq (⟨"AreaTreeModel", "isBefore", "(II)Z"⟩, 41) := ⟨⟨by decide +kernel, by decide +kernel⟩, List.mem_of_getElem? (i := 706) (by decide +kernel), List.mem_of_getElem? (i := 979) (by decide +kernel), List.mem_of_getElem? (i := 980) (by decide +kernel)⟩
theorem lw_p60 : lw_okq (⟨"AreaTreeModel", "meet", "(IIII)Z"⟩, 41) := ⟨⟨by decide +kernel, by decide +kernel⟩, List.mem_of_getElem? (i := 706) (by decide +kernel), List.mem_of_getElem? (i := 991) (by decide +kernel), List.mem_of_getElem? (i := 992) (by decide +kernel)⟩
theorem lw_p61 : lw_okq (⟨"AreaTreeModel", "pairsOf", "(II)I"⟩, 41) := ⟨⟨by decide +kernel, by decide +kernel⟩, List.mem_of_getElem? (i := 706) (by decide +kernel), List.mem_of_getElem? (i := 999) (by decide +kernel), List.mem_of_getElem? (i := 1000) (by decide +kernel)⟩
theorem lw_p62 : lw_okq (⟨"AreaTreeModel", "sort", "(IIZ)V"⟩, 41) := ⟨⟨by decide +kernel, by decide +kernel⟩, List.mem_of_getElem? (i := 706) (by decide +kernel), List.mem_of_getElem? (i := 1007) (by decide +kernel), List.mem_of_getElem? (i := 1008) (by decide +kernel)⟩
theorem lw_p63 : lw_okq (⟨"AreaTreeModel", "isPackedBefore", "(IIZ)Z"⟩, 41) := ⟨⟨by decide +kernel, by decide +kernel⟩, List.mem_of_getElem? (i := 706) (by decide +kernel), List.mem_of_getElem? (i := 1011) (by decide +kernel), List.mem_of_getElem? (i := 1012) (by decide +kernel)⟩
def lw_privs_4 : List (MethodName × Nat) := [(⟨"AreaTreeModel", "growth", "(III)J"⟩, 41), (⟨"AreaTreeModel", "partArea", "(I)J"⟩, 41), (⟨"AreaTreeModel", "placeIn", "(II)I"⟩, 41), (⟨"AreaTreeModel", "leafOf", "(I)I"⟩, 41), (⟨"AreaTreeModel", "takeFrom", "(II)V"⟩, 41), (⟨"AreaTreeModel", "enter", "(I)V"⟩, 41), (⟨"AreaTreeModel", "meets", "(IIIIII)Z"⟩, 41), (⟨"AreaTreeModel", "findOrder", "()V"⟩, 41), (⟨"AreaTreeModel", "walk", "(I)V"⟩, 41), (⟨"AreaTreeModel", "isNearer", "(IIII)Z"⟩, 41), (⟨"AreaTreeModel", "far", "(IIII)J"⟩, 41), (⟨"AreaTreeModel", "isBefore", "(II)Z"⟩, 41), (⟨"AreaTreeModel", "meet", "(IIII)Z"⟩, 41), (⟨"AreaTreeModel", "pairsOf", "(II)I"⟩, 41), (⟨"AreaTreeModel", "sort", "(IIZ)V"⟩, 41), (⟨"AreaTreeModel", "isPackedBefore", "(IIZ)Z"⟩, 41)]
theorem lw_r4 : ∀ q ∈ lw_privs_4, lw_okq q := List.forall_mem_cons.mpr ⟨lw_p48, List.forall_mem_cons.mpr ⟨lw_p49, List.forall_mem_cons.mpr ⟨lw_p50, List.forall_mem_cons.mpr ⟨lw_p51, List.forall_mem_cons.mpr ⟨lw_p52, List.forall_mem_cons.mpr ⟨lw_p53, List.forall_mem_cons.mpr ⟨lw_p54, List.forall_mem_cons.mpr ⟨lw_p55, List.forall_mem_cons.mpr ⟨lw_p56, List.forall_mem_cons.mpr ⟨lw_p57, List.forall_mem_cons.mpr ⟨lw_p58, List.forall_mem_cons.mpr ⟨lw_p59, List.forall_mem_cons.mpr ⟨lw_p60, List.forall_mem_cons.mpr ⟨lw_p61, List.forall_mem_cons.mpr ⟨lw_p62, List.forall_mem_cons.mpr ⟨lw_p63, fun _ h => absurd h List.not_mem_nil⟩⟩⟩⟩⟩⟩⟩⟩⟩⟩⟩⟩⟩⟩⟩⟩
theorem lw_p64 : lw_okq (⟨"AreaTreeModel", "layer", "(II)I"⟩, 41) := ⟨⟨by decide +kernel, by decide +kernel⟩, List.mem_of_getElem? (i := 706) (by decide +kernel), List.mem_of_getElem? (i := 1015) (by decide +kernel), List.mem_of_getElem? (i := 1016) (by decide +kernel)⟩
def lw_privs_5 : List (MethodName × Nat) := [(⟨"AreaTreeModel", "layer", "(II)I"⟩, 41)]
theorem lw_r5 : ∀ q ∈ lw_privs_5, lw_okq q := List.forall_mem_cons.mpr ⟨lw_p64, fun _ h => absurd h List.not_mem_nil⟩
def lw_privs : List (MethodName × Nat) := lw_privs_1 ++ (lw_privs_2 ++ (lw_privs_3 ++ (lw_privs_4 ++ (lw_privs_5))))
def lw_tbl : List Cond := k2_sels lw_privs ++ tables_1
theorem lw_privs_ok : ∀ q ∈ lw_privs, lw_okq q := by
  show ∀ q ∈ lw_privs_1 ++ (lw_privs_2 ++ (lw_privs_3 ++ (lw_privs_4 ++ (lw_privs_5)))), lw_okq q
  exact List.forall_mem_append.mpr ⟨lw_r1, List.forall_mem_append.mpr ⟨lw_r2, List.forall_mem_append.mpr ⟨lw_r3, List.forall_mem_append.mpr ⟨lw_r4, lw_r5⟩⟩⟩⟩
end
section
def RX0 : String := "AreaTree$Auditor"
def TX0 : u_T := fun k => match k with
  | 0 => ("AreaTree$Auditor", "store", "LAreaTree$Store;", true)
  | _ => ("AreaTree$Auditor", "tree", "LAreaTree$Tree;", true)
def tyX0 : Nat → FieldType := fun k => match k with
  | 0 => .object "AreaTree$Store"
  | _ => .object "AreaTree$Tree"
theorem nmX0 : ∀ a, a < 2 → ∀ b, b < 2 → a ≠ b → (TX0 a).2.1 ≠ (TX0 b).2.1 := by decide +kernel
theorem tyX0_ok : ∀ k, k < 2 → parseFieldDescriptor (TX0 k).2.2.1 = some (tyX0 k) := by decide +kernel
abbrev cX0_init : ByteArray := prog_2_method_1_code
def yX0_init : MethodName := ⟨RX0, "<init>", "(LAreaTree$Store;LAreaTree$Tree;)V"⟩
abbrev cX0_findsAllWell : ByteArray := prog_2_method_2_code
def yX0_findsAllWell : MethodName := ⟨RX0, "findsAllWell", "()Z"⟩
abbrev cX0_holdsEnough : ByteArray := prog_2_method_3_code
def yX0_holdsEnough : MethodName := ⟨RX0, "holdsEnough", "(I)Z"⟩
abbrev cX0_holdsRightly : ByteArray := prog_2_method_4_code
def yX0_holdsRightly : MethodName := ⟨RX0, "holdsRightly", "(I)Z"⟩
abbrev cX0_isTight : ByteArray := prog_2_method_5_code
def yX0_isTight : MethodName := ⟨RX0, "isTight", "(I)Z"⟩
abbrev cX0_noneIsTwice : ByteArray := prog_2_method_6_code
def yX0_noneIsTwice : MethodName := ⟨RX0, "noneIsTwice", "()Z"⟩
def RX1 : String := "AreaTree$Packer"
def TX1 : u_T := fun k => match k with
  | 0 => ("AreaTree$Packer", "store", "LAreaTree$Store;", true)
  | 1 => ("AreaTree$Packer", "tree", "LAreaTree$Tree;", true)
  | 2 => ("AreaTree$Packer", "line", "[I", true)
  | _ => ("AreaTree$Packer", "length", "I", false)
def tyX1 : Nat → FieldType := fun k => match k with
  | 0 => .object "AreaTree$Store"
  | 1 => .object "AreaTree$Tree"
  | 2 => .array .int
  | _ => .int
theorem nmX1 : ∀ a, a < 4 → ∀ b, b < 4 → a ≠ b → (TX1 a).2.1 ≠ (TX1 b).2.1 := by decide +kernel
theorem tyX1_ok : ∀ k, k < 4 → parseFieldDescriptor (TX1 k).2.2.1 = some (tyX1 k) := by decide +kernel
abbrev cX1_init : ByteArray := prog_3_method_1_code
def yX1_init : MethodName := ⟨RX1, "<init>", "(LAreaTree$Store;LAreaTree$Tree;)V"⟩
abbrev cX1_buildAnew : ByteArray := prog_3_method_2_code
def yX1_buildAnew : MethodName := ⟨RX1, "buildAnew", "()V"⟩
abbrev cX1_gather : ByteArray := prog_3_method_3_code
def yX1_gather : MethodName := ⟨RX1, "gather", "()V"⟩
abbrev cX1_sortSlices : ByteArray := prog_3_method_4_code
def yX1_sortSlices : MethodName := ⟨RX1, "sortSlices", "()V"⟩
abbrev cX1_groupsOf : ByteArray := prog_3_method_5_code
def yX1_groupsOf : MethodName := ⟨RX1, "groupsOf", "(I)I"⟩
abbrev cX1_sort : ByteArray := prog_3_method_6_code
def yX1_sort : MethodName := ⟨RX1, "sort", "(IIZ)V"⟩
abbrev cX1_compare : ByteArray := prog_3_method_7_code
def yX1_compare : MethodName := ⟨RX1, "compare", "(IIZ)I"⟩
abbrev cX1_groupInto : ByteArray := prog_3_method_8_code
def yX1_groupInto : MethodName := ⟨RX1, "groupInto", "(I)V"⟩
abbrev cX1_startOf : ByteArray := prog_3_method_9_code
def yX1_startOf : MethodName := ⟨RX1, "startOf", "(II)I"⟩
def RX2 : String := "AreaTree$Search"
def TX2 : u_T := fun k => match k with
  | 0 => ("AreaTree$Search", "store", "LAreaTree$Store;", true)
  | 1 => ("AreaTree$Search", "tree", "LAreaTree$Tree;", true)
  | 2 => ("AreaTree$Search", "heap", "[I", true)
  | 3 => ("AreaTree$Search", "square", "[I", true)
  | 4 => ("AreaTree$Search", "length", "I", false)
  | 5 => ("AreaTree$Search", "nodesRead", "I", false)
  | _ => ("AreaTree$Search", "toldDistance", "I", false)
def tyX2 : Nat → FieldType := fun k => match k with
  | 0 => .object "AreaTree$Store"
  | 1 => .object "AreaTree$Tree"
  | 2 => .array .int
  | 3 => .array .int
  | 4 => .int
  | 5 => .int
  | _ => .int
theorem nmX2 : ∀ a, a < 7 → ∀ b, b < 7 → a ≠ b → (TX2 a).2.1 ≠ (TX2 b).2.1 := by decide +kernel
theorem tyX2_ok : ∀ k, k < 7 → parseFieldDescriptor (TX2 k).2.2.1 = some (tyX2 k) := by decide +kernel
abbrev cX2_init : ByteArray := prog_4_method_1_code
def yX2_init : MethodName := ⟨RX2, "<init>", "(LAreaTree$Store;LAreaTree$Tree;)V"⟩
abbrev cX2_find : ByteArray := prog_4_method_2_code
def yX2_find : MethodName := ⟨RX2, "find", "(III)I"⟩
abbrev cX2_read : ByteArray := prog_4_method_3_code
def yX2_read : MethodName := ⟨RX2, "read", "(III)V"⟩
abbrev cX2_push : ByteArray := prog_4_method_4_code
def yX2_push : MethodName := ⟨RX2, "push", "(III)V"⟩
abbrev cX2_pop : ByteArray := prog_4_method_5_code
def yX2_pop : MethodName := ⟨RX2, "pop", "()I"⟩
abbrev cX2_lesserBelow : ByteArray := prog_4_method_6_code
def yX2_lesserBelow : MethodName := ⟨RX2, "lesserBelow", "(I)I"⟩
abbrev cX2_isBefore : ByteArray := prog_4_method_7_code
def yX2_isBefore : MethodName := ⟨RX2, "isBefore", "(II)Z"⟩
def RX3 : String := "AreaTree$Splitter"
def TX3 : u_T := fun k => match k with
  | 0 => ("AreaTree$Splitter", "store", "LAreaTree$Store;", true)
  | 1 => ("AreaTree$Splitter", "left", "[I", true)
  | 2 => ("AreaTree$Splitter", "leftCount", "I", false)
  | 3 => ("AreaTree$Splitter", "firstSeed", "I", false)
  | _ => ("AreaTree$Splitter", "secondSeed", "I", false)
def tyX3 : Nat → FieldType := fun k => match k with
  | 0 => .object "AreaTree$Store"
  | 1 => .array .int
  | 2 => .int
  | 3 => .int
  | _ => .int
theorem nmX3 : ∀ a, a < 5 → ∀ b, b < 5 → a ≠ b → (TX3 a).2.1 ≠ (TX3 b).2.1 := by decide +kernel
theorem tyX3_ok : ∀ k, k < 5 → parseFieldDescriptor (TX3 k).2.2.1 = some (tyX3 k) := by decide +kernel
abbrev cX3_init : ByteArray := prog_5_method_1_code
def yX3_init : MethodName := ⟨RX3, "<init>", "(LAreaTree$Store;)V"⟩
abbrev cX3_share : ByteArray := prog_5_method_2_code
def yX3_share : MethodName := ⟨RX3, "share", "(II)V"⟩
abbrev cX3_pourOut : ByteArray := prog_5_method_3_code
def yX3_pourOut : MethodName := ⟨RX3, "pourOut", "(I)V"⟩
abbrev cX3_findSeeds : ByteArray := prog_5_method_4_code
def yX3_findSeeds : MethodName := ⟨RX3, "findSeeds", "()V"⟩
abbrev cX3_takeLeft : ByteArray := prog_5_method_5_code
def yX3_takeLeft : MethodName := ⟨RX3, "takeLeft", "(I)I"⟩
abbrev cX3_needsAll : ByteArray := prog_5_method_6_code
def yX3_needsAll : MethodName := ⟨RX3, "needsAll", "(I)Z"⟩
abbrev cX3_mostDecided : ByteArray := prog_5_method_7_code
def yX3_mostDecided : MethodName := ⟨RX3, "mostDecided", "(II)I"⟩
abbrev cX3_fitting : ByteArray := prog_5_method_8_code
def yX3_fitting : MethodName := ⟨RX3, "fitting", "(III)I"⟩
def RX4 : String := "AreaTree$Store"
def TX4 : u_T := fun k => match k with
  | 0 => ("AreaTree$Store", "most", "I", true)
  | 1 => ("AreaTree$Store", "least", "I", true)
  | 2 => ("AreaTree$Store", "level", "[I", true)
  | 3 => ("AreaTree$Store", "x1", "[I", true)
  | 4 => ("AreaTree$Store", "y1", "[I", true)
  | 5 => ("AreaTree$Store", "x2", "[I", true)
  | 6 => ("AreaTree$Store", "y2", "[I", true)
  | 7 => ("AreaTree$Store", "name", "[I", true)
  | 8 => ("AreaTree$Store", "holder", "[I", true)
  | 9 => ("AreaTree$Store", "size", "[I", true)
  | 10 => ("AreaTree$Store", "width", "I", true)
  | 11 => ("AreaTree$Store", "rows", "[I", true)
  | 12 => ("AreaTree$Store", "entries", "I", false)
  | 13 => ("AreaTree$Store", "entryTop", "I", false)
  | 14 => ("AreaTree$Store", "spareEntry", "I", false)
  | 15 => ("AreaTree$Store", "nodeTop", "I", false)
  | _ => ("AreaTree$Store", "spareNode", "I", false)
def tyX4 : Nat → FieldType := fun k => match k with
  | 0 => .int
  | 1 => .int
  | 2 => .array .int
  | 3 => .array .int
  | 4 => .array .int
  | 5 => .array .int
  | 6 => .array .int
  | 7 => .array .int
  | 8 => .array .int
  | 9 => .array .int
  | 10 => .int
  | 11 => .array .int
  | 12 => .int
  | 13 => .int
  | 14 => .int
  | 15 => .int
  | _ => .int
theorem nmX4 : ∀ a, a < 17 → ∀ b, b < 17 → a ≠ b → (TX4 a).2.1 ≠ (TX4 b).2.1 := by decide +kernel
theorem tyX4_ok : ∀ k, k < 17 → parseFieldDescriptor (TX4 k).2.2.1 = some (tyX4 k) := by decide +kernel
abbrev cX4_init : ByteArray := prog_6_method_1_code
def yX4_init : MethodName := ⟨RX4, "<init>", "(II)V"⟩
abbrev cX4_forgetEntries : ByteArray := prog_6_method_2_code
def yX4_forgetEntries : MethodName := ⟨RX4, "forgetEntries", "()V"⟩
abbrev cX4_forgetNodes : ByteArray := prog_6_method_3_code
def yX4_forgetNodes : MethodName := ⟨RX4, "forgetNodes", "()V"⟩
abbrev cX4_newEntry : ByteArray := prog_6_method_4_code
def yX4_newEntry : MethodName := ⟨RX4, "newEntry", "(I)I"⟩
abbrev cX4_freeEntry : ByteArray := prog_6_method_5_code
def yX4_freeEntry : MethodName := ⟨RX4, "freeEntry", "(I)V"⟩
abbrev cX4_newNode : ByteArray := prog_6_method_6_code
def yX4_newNode : MethodName := ⟨RX4, "newNode", "(I)I"⟩
abbrev cX4_freeNode : ByteArray := prog_6_method_7_code
def yX4_freeNode : MethodName := ⟨RX4, "freeNode", "(I)V"⟩
abbrev cX4_isEntry : ByteArray := prog_6_method_8_code
def yX4_isEntry : MethodName := ⟨RX4, "isEntry", "(I)Z"⟩
abbrev cX4_describe : ByteArray := prog_6_method_9_code
def yX4_describe : MethodName := ⟨RX4, "describe", "(IIIIII)V"⟩
abbrev cX4_side : ByteArray := prog_6_method_10_code
def yX4_side : MethodName := ⟨RX4, "side", "(II)I"⟩
abbrev cX4_area : ByteArray := prog_6_method_11_code
def yX4_area : MethodName := ⟨RX4, "area", "(I)I"⟩
abbrev cX4_growth : ByteArray := prog_6_method_12_code
def yX4_growth : MethodName := ⟨RX4, "growth", "(II)I"⟩
abbrev cX4_meet : ByteArray := prog_6_method_13_code
def yX4_meet : MethodName := ⟨RX4, "meet", "(II)Z"⟩
abbrev cX4_sameRectangle : ByteArray := prog_6_method_14_code
def yX4_sameRectangle : MethodName := ⟨RX4, "sameRectangle", "(II)Z"⟩
abbrev cX4_alike : ByteArray := prog_6_method_15_code
def yX4_alike : MethodName := ⟨RX4, "alike", "(II)Z"⟩
abbrev cX4_copyRectangle : ByteArray := prog_6_method_16_code
def yX4_copyRectangle : MethodName := ⟨RX4, "copyRectangle", "(II)V"⟩
abbrev cX4_cover : ByteArray := prog_6_method_17_code
def yX4_cover : MethodName := ⟨RX4, "cover", "(II)V"⟩
abbrev cX4_squareTo : ByteArray := prog_6_method_18_code
def yX4_squareTo : MethodName := ⟨RX4, "squareTo", "(III)I"⟩
abbrev cX4_compareNames : ByteArray := prog_6_method_19_code
def yX4_compareNames : MethodName := ⟨RX4, "compareNames", "(II)I"⟩
abbrev cX4_entryLike : ByteArray := prog_6_method_20_code
def yX4_entryLike : MethodName := ⟨RX4, "entryLike", "(I)I"⟩
abbrev cX4_entriesMeeting : ByteArray := prog_6_method_21_code
def yX4_entriesMeeting : MethodName := ⟨RX4, "entriesMeeting", "(II)I"⟩
abbrev cX4_thingAt : ByteArray := prog_6_method_22_code
def yX4_thingAt : MethodName := ⟨RX4, "thingAt", "(II)I"⟩
abbrev cX4_placeAt : ByteArray := prog_6_method_23_code
def yX4_placeAt : MethodName := ⟨RX4, "placeAt", "(III)V"⟩
abbrev cX4_indexIn : ByteArray := prog_6_method_24_code
def yX4_indexIn : MethodName := ⟨RX4, "indexIn", "(II)I"⟩
abbrev cX4_attach : ByteArray := prog_6_method_25_code
def yX4_attach : MethodName := ⟨RX4, "attach", "(II)V"⟩
abbrev cX4_attachBehind : ByteArray := prog_6_method_26_code
def yX4_attachBehind : MethodName := ⟨RX4, "attachBehind", "(II)V"⟩
abbrev cX4_attachAt : ByteArray := prog_6_method_27_code
def yX4_attachAt : MethodName := ⟨RX4, "attachAt", "(III)V"⟩
abbrev cX4_detach : ByteArray := prog_6_method_28_code
def yX4_detach : MethodName := ⟨RX4, "detach", "(I)V"⟩
abbrev cX4_fitAround : ByteArray := prog_6_method_29_code
def yX4_fitAround : MethodName := ⟨RX4, "fitAround", "(II)V"⟩
def RX5 : String := "AreaTree$Tree"
def TX5 : u_T := fun k => match k with
  | 0 => ("AreaTree$Tree", "store", "LAreaTree$Store;", true)
  | 1 => ("AreaTree$Tree", "splitter", "LAreaTree$Splitter;", true)
  | 2 => ("AreaTree$Tree", "homeless", "[I", true)
  | 3 => ("AreaTree$Tree", "waiting", "I", false)
  | 4 => ("AreaTree$Tree", "order", "[I", true)
  | 5 => ("AreaTree$Tree", "nodes", "I", false)
  | 6 => ("AreaTree$Tree", "root", "I", false)
  | 7 => ("AreaTree$Tree", "splits", "I", false)
  | 8 => ("AreaTree$Tree", "dissolved", "I", false)
  | _ => ("AreaTree$Tree", "madeHomeless", "I", false)
def tyX5 : Nat → FieldType := fun k => match k with
  | 0 => .object "AreaTree$Store"
  | 1 => .object "AreaTree$Splitter"
  | 2 => .array .int
  | 3 => .int
  | 4 => .array .int
  | 5 => .int
  | 6 => .int
  | 7 => .int
  | 8 => .int
  | _ => .int
theorem nmX5 : ∀ a, a < 10 → ∀ b, b < 10 → a ≠ b → (TX5 a).2.1 ≠ (TX5 b).2.1 := by decide +kernel
theorem tyX5_ok : ∀ k, k < 10 → parseFieldDescriptor (TX5 k).2.2.1 = some (tyX5 k) := by decide +kernel
abbrev cX5_init : ByteArray := prog_7_method_1_code
def yX5_init : MethodName := ⟨RX5, "<init>", "(LAreaTree$Store;)V"⟩
abbrev cX5_startEmpty : ByteArray := prog_7_method_2_code
def yX5_startEmpty : MethodName := ⟨RX5, "startEmpty", "()V"⟩
abbrev cX5_renumber : ByteArray := prog_7_method_3_code
def yX5_renumber : MethodName := ⟨RX5, "renumber", "()V"⟩
abbrev cX5_numberFrom : ByteArray := prog_7_method_4_code
def yX5_numberFrom : MethodName := ⟨RX5, "numberFrom", "(II)V"⟩
abbrev cX5_put : ByteArray := prog_7_method_5_code
def yX5_put : MethodName := ⟨RX5, "put", "(I)V"⟩
abbrev cX5_leastGrowing : ByteArray := prog_7_method_6_code
def yX5_leastGrowing : MethodName := ⟨RX5, "leastGrowing", "(II)I"⟩
abbrev cX5_splitUpwards : ByteArray := prog_7_method_7_code
def yX5_splitUpwards : MethodName := ⟨RX5, "splitUpwards", "(I)V"⟩
abbrev cX5_raiseRoot : ByteArray := prog_7_method_8_code
def yX5_raiseRoot : MethodName := ⟨RX5, "raiseRoot", "(I)V"⟩
abbrev cX5_take : ByteArray := prog_7_method_9_code
def yX5_take : MethodName := ⟨RX5, "take", "(I)V"⟩
abbrev cX5_thinUpwards : ByteArray := prog_7_method_10_code
def yX5_thinUpwards : MethodName := ⟨RX5, "thinUpwards", "(I)V"⟩
abbrev cX5_dissolve : ByteArray := prog_7_method_11_code
def yX5_dissolve : MethodName := ⟨RX5, "dissolve", "(I)V"⟩
abbrev cX5_lowerRoot : ByteArray := prog_7_method_12_code
def yX5_lowerRoot : MethodName := ⟨RX5, "lowerRoot", "()V"⟩
abbrev cX5_meetingNodes : ByteArray := prog_7_method_13_code
def yX5_meetingNodes : MethodName := ⟨RX5, "meetingNodes", "()I"⟩
def RX6 : String := "AreaTree$Walk"
def TX6 : u_T := fun k => match k with
  | 0 => ("AreaTree$Walk", "store", "LAreaTree$Store;", true)
  | 1 => ("AreaTree$Walk", "tree", "LAreaTree$Tree;", true)
  | 2 => ("AreaTree$Walk", "isOpen", "Z", false)
  | 3 => ("AreaTree$Walk", "nodesRead", "I", false)
  | 4 => ("AreaTree$Walk", "number", "I", false)
  | 5 => ("AreaTree$Walk", "leaf", "I", false)
  | _ => ("AreaTree$Walk", "index", "I", false)
def tyX6 : Nat → FieldType := fun k => match k with
  | 0 => .object "AreaTree$Store"
  | 1 => .object "AreaTree$Tree"
  | 2 => .boolean
  | 3 => .int
  | 4 => .int
  | 5 => .int
  | _ => .int
theorem nmX6 : ∀ a, a < 7 → ∀ b, b < 7 → a ≠ b → (TX6 a).2.1 ≠ (TX6 b).2.1 := by decide +kernel
theorem tyX6_ok : ∀ k, k < 7 → parseFieldDescriptor (TX6 k).2.2.1 = some (tyX6 k) := by decide +kernel
abbrev cX6_init : ByteArray := prog_8_method_1_code
def yX6_init : MethodName := ⟨RX6, "<init>", "(LAreaTree$Store;LAreaTree$Tree;)V"⟩
abbrev cX6_shut : ByteArray := prog_8_method_2_code
def yX6_shut : MethodName := ⟨RX6, "shut", "()V"⟩
abbrev cX6_open : ByteArray := prog_8_method_3_code
def yX6_open : MethodName := ⟨RX6, "open", "()V"⟩
abbrev cX6_goOn : ByteArray := prog_8_method_4_code
def yX6_goOn : MethodName := ⟨RX6, "goOn", "()I"⟩
abbrev cX6_lookAt : ByteArray := prog_8_method_5_code
def yX6_lookAt : MethodName := ⟨RX6, "lookAt", "(I)V"⟩
abbrev cX6_nextInLeaf : ByteArray := prog_8_method_6_code
def yX6_nextInLeaf : MethodName := ⟨RX6, "nextInLeaf", "()I"⟩
def RX7 : String := "AreaTree"
def TX7 : u_T := fun k => match k with
  | 0 => ("AreaTree", "store", "LAreaTree$Store;", true)
  | 1 => ("AreaTree", "tree", "LAreaTree$Tree;", true)
  | 2 => ("AreaTree", "packer", "LAreaTree$Packer;", true)
  | 3 => ("AreaTree", "walk", "LAreaTree$Walk;", true)
  | 4 => ("AreaTree", "search", "LAreaTree$Search;", true)
  | _ => ("AreaTree", "auditor", "LAreaTree$Auditor;", true)
def tyX7 : Nat → FieldType := fun k => match k with
  | 0 => .object "AreaTree$Store"
  | 1 => .object "AreaTree$Tree"
  | 2 => .object "AreaTree$Packer"
  | 3 => .object "AreaTree$Walk"
  | 4 => .object "AreaTree$Search"
  | _ => .object "AreaTree$Auditor"
theorem nmX7 : ∀ a, a < 6 → ∀ b, b < 6 → a ≠ b → (TX7 a).2.1 ≠ (TX7 b).2.1 := by decide +kernel
theorem tyX7_ok : ∀ k, k < 6 → parseFieldDescriptor (TX7 k).2.2.1 = some (tyX7 k) := by decide +kernel
abbrev cX7_init : ByteArray := prog_1_method_1_code
def yX7_init : MethodName := ⟨RX7, "<init>", "(II)V"⟩
abbrev cX7_insert : ByteArray := prog_1_method_2_code
def yX7_insert : MethodName := ⟨RX7, "insert", "(IIIII)I"⟩
abbrev cX7_remove : ByteArray := prog_1_method_3_code
def yX7_remove : MethodName := ⟨RX7, "remove", "(IIIII)I"⟩
abbrev cX7_window : ByteArray := prog_1_method_4_code
def yX7_window : MethodName := ⟨RX7, "window", "(IIII)I"⟩
abbrev cX7_next : ByteArray := prog_1_method_5_code
def yX7_next : MethodName := ⟨RX7, "next", "()I"⟩
abbrev cX7_countIn : ByteArray := prog_1_method_6_code
def yX7_countIn : MethodName := ⟨RX7, "countIn", "(IIII)I"⟩
abbrev cX7_nearest : ByteArray := prog_1_method_7_code
def yX7_nearest : MethodName := ⟨RX7, "nearest", "(III)I"⟩
abbrev cX7_distance : ByteArray := prog_1_method_8_code
def yX7_distance : MethodName := ⟨RX7, "distance", "()I"⟩
abbrev cX7_pairs : ByteArray := prog_1_method_9_code
def yX7_pairs : MethodName := ⟨RX7, "pairs", "()I"⟩
abbrev cX7_visited : ByteArray := prog_1_method_10_code
def yX7_visited : MethodName := ⟨RX7, "visited", "(I)I"⟩
abbrev cX7_pack : ByteArray := prog_1_method_11_code
def yX7_pack : MethodName := ⟨RX7, "pack", "()I"⟩
abbrev cX7_clear : ByteArray := prog_1_method_12_code
def yX7_clear : MethodName := ⟨RX7, "clear", "()I"⟩
abbrev cX7_count : ByteArray := prog_1_method_13_code
def yX7_count : MethodName := ⟨RX7, "count", "(I)I"⟩
abbrev cX7_node : ByteArray := prog_1_method_14_code
def yX7_node : MethodName := ⟨RX7, "node", "(II)I"⟩
abbrev cX7_held : ByteArray := prog_1_method_15_code
def yX7_held : MethodName := ⟨RX7, "held", "(III)I"⟩
abbrev cX7_audit : ByteArray := prog_1_method_16_code
def yX7_audit : MethodName := ⟨RX7, "audit", "()Z"⟩
abbrev cX7_isId : ByteArray := prog_1_method_17_code
def yX7_isId : MethodName := ⟨RX7, "isId", "(I)Z"⟩
abbrev cX7_isPlace : ByteArray := prog_1_method_18_code
def yX7_isPlace : MethodName := ⟨RX7, "isPlace", "(I)Z"⟩
abbrev cX7_isRectangle : ByteArray := prog_1_method_19_code
def yX7_isRectangle : MethodName := ⟨RX7, "isRectangle", "(IIII)Z"⟩
def RX8 : String := "AreaTreeModel"
def TX8 : u_T := fun k => match k with
  | 0 => ("AreaTreeModel", "thrown", "I", false)
  | 1 => ("AreaTreeModel", "most", "I", true)
  | 2 => ("AreaTreeModel", "least", "I", true)
  | 3 => ("AreaTreeModel", "ids", "[I", true)
  | 4 => ("AreaTreeModel", "sides", "[I", true)
  | 5 => ("AreaTreeModel", "entries", "I", false)
  | 6 => ("AreaTreeModel", "levels", "[I", true)
  | 7 => ("AreaTreeModel", "counts", "[I", true)
  | 8 => ("AreaTreeModel", "held", "[I", true)
  | 9 => ("AreaTreeModel", "rects", "[I", true)
  | 10 => ("AreaTreeModel", "parents", "[I", true)
  | 11 => ("AreaTreeModel", "root", "I", false)
  | 12 => ("AreaTreeModel", "splits", "I", false)
  | 13 => ("AreaTreeModel", "gone", "I", false)
  | 14 => ("AreaTreeModel", "homelessEver", "I", false)
  | 15 => ("AreaTreeModel", "homeless", "[I", true)
  | 16 => ("AreaTreeModel", "homelessLevels", "[I", true)
  | 17 => ("AreaTreeModel", "homelessCount", "I", false)
  | 18 => ("AreaTreeModel", "order", "[I", true)
  | 19 => ("AreaTreeModel", "ordered", "I", false)
  | 20 => ("AreaTreeModel", "isOpen", "Z", false)
  | 21 => ("AreaTreeModel", "pane", "[I", true)
  | 22 => ("AreaTreeModel", "way", "[I", true)
  | 23 => ("AreaTreeModel", "wayNext", "[I", true)
  | 24 => ("AreaTreeModel", "deep", "I", false)
  | 25 => ("AreaTreeModel", "isBegun", "Z", false)
  | 26 => ("AreaTreeModel", "windowVisits", "I", false)
  | 27 => ("AreaTreeModel", "nearVisits", "I", false)
  | 28 => ("AreaTreeModel", "isTold", "Z", false)
  | 29 => ("AreaTreeModel", "toldDistance", "J", false)
  | 30 => ("AreaTreeModel", "things", "[I", true)
  | 31 => ("AreaTreeModel", "parts", "[I", true)
  | 32 => ("AreaTreeModel", "comes", "[I", true)
  | 33 => ("AreaTreeModel", "partRects", "[I", true)
  | 34 => ("AreaTreeModel", "partCounts", "[I", true)
  | 35 => ("AreaTreeModel", "row", "[I", true)
  | 36 => ("AreaTreeModel", "rowLevels", "[I", true)
  | 37 => ("AreaTreeModel", "rowCount", "I", false)
  | 38 => ("AreaTreeModel", "numbers", "[I", true)
  | 39 => ("AreaTreeModel", "sorted", "[I", true)
  | _ => ("AreaTreeModel", "fresh", "[I", true)
def tyX8 : Nat → FieldType := fun k => match k with
  | 0 => .int
  | 1 => .int
  | 2 => .int
  | 3 => .array .int
  | 4 => .array .int
  | 5 => .int
  | 6 => .array .int
  | 7 => .array .int
  | 8 => .array .int
  | 9 => .array .int
  | 10 => .array .int
  | 11 => .int
  | 12 => .int
  | 13 => .int
  | 14 => .int
  | 15 => .array .int
  | 16 => .array .int
  | 17 => .int
  | 18 => .array .int
  | 19 => .int
  | 20 => .boolean
  | 21 => .array .int
  | 22 => .array .int
  | 23 => .array .int
  | 24 => .int
  | 25 => .boolean
  | 26 => .int
  | 27 => .int
  | 28 => .boolean
  | 29 => .long
  | 30 => .array .int
  | 31 => .array .int
  | 32 => .array .int
  | 33 => .array .int
  | 34 => .array .int
  | 35 => .array .int
  | 36 => .array .int
  | 37 => .int
  | 38 => .array .int
  | 39 => .array .int
  | _ => .array .int
theorem nmX8 : ∀ a, a < 41 → ∀ b, b < 41 → a ≠ b → (TX8 a).2.1 ≠ (TX8 b).2.1 := by decide +kernel
theorem tyX8_ok : ∀ k, k < 41 → parseFieldDescriptor (TX8 k).2.2.1 = some (tyX8 k) := by decide +kernel
abbrev cX8_init : ByteArray := prog_10_method_2_code
def yX8_init : MethodName := ⟨RX8, "<init>", "(II)V"⟩
abbrev cX8_side : ByteArray := prog_10_method_3_code
def yX8_side : MethodName := ⟨RX8, "side", "(III)I"⟩
abbrev cX8_area : ByteArray := prog_10_method_4_code
def yX8_area : MethodName := ⟨RX8, "area", "(IIII)J"⟩
abbrev cX8_areaOf : ByteArray := prog_10_method_5_code
def yX8_areaOf : MethodName := ⟨RX8, "areaOf", "(II)J"⟩
abbrev cX8_lesser : ByteArray := prog_10_method_6_code
def yX8_lesser : MethodName := ⟨RX8, "lesser", "(II)I"⟩
abbrev cX8_greater : ByteArray := prog_10_method_7_code
def yX8_greater : MethodName := ⟨RX8, "greater", "(II)I"⟩
abbrev cX8_areaBoth : ByteArray := prog_10_method_8_code
def yX8_areaBoth : MethodName := ⟨RX8, "areaBoth", "(IIII)J"⟩
abbrev cX8_meet : ByteArray := prog_10_method_9_code
def yX8_meet : MethodName := ⟨RX8, "meet", "(IIII)Z"⟩
abbrev cX8_meets : ByteArray := prog_10_method_10_code
def yX8_meets : MethodName := ⟨RX8, "meets", "(IIIIII)Z"⟩
abbrev cX8_isPlace : ByteArray := prog_10_method_11_code
def yX8_isPlace : MethodName := ⟨RX8, "isPlace", "(I)Z"⟩
abbrev cX8_isRect : ByteArray := prog_10_method_12_code
def yX8_isRect : MethodName := ⟨RX8, "isRect", "(IIII)Z"⟩
abbrev cX8_node : ByteArray := prog_10_method_13_code
def yX8_node : MethodName := ⟨RX8, "node", "(I)I"⟩
abbrev cX8_heldBy : ByteArray := prog_10_method_14_code
def yX8_heldBy : MethodName := ⟨RX8, "heldBy", "(II)I"⟩
abbrev cX8_hold : ByteArray := prog_10_method_15_code
def yX8_hold : MethodName := ⟨RX8, "hold", "(II)V"⟩
abbrev cX8_measure : ByteArray := prog_10_method_16_code
def yX8_measure : MethodName := ⟨RX8, "measure", "(I)V"⟩
abbrev cX8_measureUp : ByteArray := prog_10_method_17_code
def yX8_measureUp : MethodName := ⟨RX8, "measureUp", "(I)V"⟩
abbrev cX8_placeIn : ByteArray := prog_10_method_18_code
def yX8_placeIn : MethodName := ⟨RX8, "placeIn", "(II)I"⟩
abbrev cX8_takeFrom : ByteArray := prog_10_method_19_code
def yX8_takeFrom : MethodName := ⟨RX8, "takeFrom", "(II)V"⟩
abbrev cX8_choose : ByteArray := prog_10_method_20_code
def yX8_choose : MethodName := ⟨RX8, "choose", "(III)I"⟩
abbrev cX8_put : ByteArray := prog_10_method_21_code
def yX8_put : MethodName := ⟨RX8, "put", "(II)V"⟩
abbrev cX8_split : ByteArray := prog_10_method_22_code
def yX8_split : MethodName := ⟨RX8, "split", "(I)V"⟩
abbrev cX8_come : ByteArray := prog_10_method_23_code
def yX8_come : MethodName := ⟨RX8, "come", "(IIII)I"⟩
abbrev cX8_partArea : ByteArray := prog_10_method_24_code
def yX8_partArea : MethodName := ⟨RX8, "partArea", "(I)J"⟩
abbrev cX8_growth : ByteArray := prog_10_method_25_code
def yX8_growth : MethodName := ⟨RX8, "growth", "(III)J"⟩
abbrev cX8_comeBest : ByteArray := prog_10_method_26_code
def yX8_comeBest : MethodName := ⟨RX8, "comeBest", "(III)I"⟩
abbrev cX8_find : ByteArray := prog_10_method_27_code
def yX8_find : MethodName := ⟨RX8, "find", "(IIIII)I"⟩
abbrev cX8_isEntry : ByteArray := prog_10_method_28_code
def yX8_isEntry : MethodName := ⟨RX8, "isEntry", "(IIIII)Z"⟩
abbrev cX8_insert : ByteArray := prog_10_method_29_code
def yX8_insert : MethodName := ⟨RX8, "insert", "(IIIII)I"⟩
abbrev cX8_leafOf : ByteArray := prog_10_method_30_code
def yX8_leafOf : MethodName := ⟨RX8, "leafOf", "(I)I"⟩
abbrev cX8_remove : ByteArray := prog_10_method_31_code
def yX8_remove : MethodName := ⟨RX8, "remove", "(IIIII)I"⟩
abbrev cX8_window : ByteArray := prog_10_method_32_code
def yX8_window : MethodName := ⟨RX8, "window", "(IIII)I"⟩
abbrev cX8_enter : ByteArray := prog_10_method_33_code
def yX8_enter : MethodName := ⟨RX8, "enter", "(I)V"⟩
abbrev cX8_next : ByteArray := prog_10_method_34_code
def yX8_next : MethodName := ⟨RX8, "next", "()I"⟩
abbrev cX8_countIn : ByteArray := prog_10_method_35_code
def yX8_countIn : MethodName := ⟨RX8, "countIn", "(IIII)I"⟩
abbrev cX8_findOrder : ByteArray := prog_10_method_36_code
def yX8_findOrder : MethodName := ⟨RX8, "findOrder", "()V"⟩
abbrev cX8_walk : ByteArray := prog_10_method_37_code
def yX8_walk : MethodName := ⟨RX8, "walk", "(I)V"⟩
abbrev cX8_far : ByteArray := prog_10_method_38_code
def yX8_far : MethodName := ⟨RX8, "far", "(IIII)J"⟩
abbrev cX8_isBefore : ByteArray := prog_10_method_39_code
def yX8_isBefore : MethodName := ⟨RX8, "isBefore", "(II)Z"⟩
abbrev cX8_isNearer : ByteArray := prog_10_method_40_code
def yX8_isNearer : MethodName := ⟨RX8, "isNearer", "(IIII)Z"⟩
abbrev cX8_nearest : ByteArray := prog_10_method_41_code
def yX8_nearest : MethodName := ⟨RX8, "nearest", "(III)I"⟩
abbrev cX8_distance : ByteArray := prog_10_method_42_code
def yX8_distance : MethodName := ⟨RX8, "distance", "()I"⟩
abbrev cX8_pairs : ByteArray := prog_10_method_43_code
def yX8_pairs : MethodName := ⟨RX8, "pairs", "()I"⟩
abbrev cX8_pairsOf : ByteArray := prog_10_method_44_code
def yX8_pairsOf : MethodName := ⟨RX8, "pairsOf", "(II)I"⟩
abbrev cX8_visited : ByteArray := prog_10_method_45_code
def yX8_visited : MethodName := ⟨RX8, "visited", "(I)I"⟩
abbrev cX8_isPackedBefore : ByteArray := prog_10_method_46_code
def yX8_isPackedBefore : MethodName := ⟨RX8, "isPackedBefore", "(IIZ)Z"⟩
abbrev cX8_sort : ByteArray := prog_10_method_47_code
def yX8_sort : MethodName := ⟨RX8, "sort", "(IIZ)V"⟩
abbrev cX8_pack : ByteArray := prog_10_method_48_code
def yX8_pack : MethodName := ⟨RX8, "pack", "()I"⟩
abbrev cX8_layer : ByteArray := prog_10_method_49_code
def yX8_layer : MethodName := ⟨RX8, "layer", "(II)I"⟩
abbrev cX8_clear : ByteArray := prog_10_method_50_code
def yX8_clear : MethodName := ⟨RX8, "clear", "()I"⟩
abbrev cX8_count : ByteArray := prog_10_method_51_code
def yX8_count : MethodName := ⟨RX8, "count", "(I)I"⟩
abbrev cX8_node_ : ByteArray := prog_10_method_52_code
def yX8_node_ : MethodName := ⟨RX8, "node", "(II)I"⟩
abbrev cX8_held : ByteArray := prog_10_method_53_code
def yX8_held : MethodName := ⟨RX8, "held", "(III)I"⟩
abbrev cX8_audit : ByteArray := prog_10_method_54_code
def yX8_audit : MethodName := ⟨RX8, "audit", "()Z"⟩
def RJ6 : String := "java/lang/Integer"
def TJ6 : u_T := fun k => match k with
  | _ => ("", "", "", false)
def tyJ6 : Nat → FieldType := fun k => match k with
  | _ => .int
theorem nmJ6 : ∀ a, a < 0 → ∀ b, b < 0 → a ≠ b → (TJ6 a).2.1 ≠ (TJ6 b).2.1 := by decide +kernel
theorem tyJ6_ok : ∀ k, k < 0 → parseFieldDescriptor (TJ6 k).2.2.1 = some (tyJ6 k) := by decide +kernel
abbrev cJ6_compare_7cf53 : ByteArray := prog_11_method_40_code
def yJ6_compare_7cf53 : MethodName := ⟨RJ6, "compare", "(II)I"⟩
def RJ9 : String := "java/lang/Math"
def TJ9 : u_T := fun k => match k with
  | _ => ("", "", "", false)
def tyJ9 : Nat → FieldType := fun k => match k with
  | _ => .int
theorem nmJ9 : ∀ a, a < 0 → ∀ b, b < 0 → a ≠ b → (TJ9 a).2.1 ≠ (TJ9 b).2.1 := by decide +kernel
theorem tyJ9_ok : ∀ k, k < 0 → parseFieldDescriptor (TJ9 k).2.2.1 = some (tyJ9 k) := by decide +kernel
abbrev cJ9_abs_0f7a4 : ByteArray := prog_12_method_59_code
def yJ9_abs_0f7a4 : MethodName := ⟨RJ9, "abs", "(I)I"⟩
abbrev cJ9_max_7cf53 : ByteArray := prog_12_method_65_code
def yJ9_max_7cf53 : MethodName := ⟨RJ9, "max", "(II)I"⟩
abbrev cJ9_min_7cf53 : ByteArray := prog_12_method_69_code
def yJ9_min_7cf53 : MethodName := ⟨RJ9, "min", "(II)I"⟩
def RL : String := "AreaTreeLaw"
abbrev cL_cell : ByteArray := method_2_code
def yL_cell : MethodName := ⟨RL, "cell", "([II)I"⟩
abbrev cL_law : ByteArray := code
def yL_law : MethodName := ⟨RL, "law", "([I)Z"⟩
abbrev vwCl : List vw_C := [(RX0, TX0, 2), (RX1, TX1, 4), (RX2, TX2, 7), (RX3, TX3, 5), (RX4, TX4, 17), (RX5, TX5, 10), (RX6, TX6, 7), (RX7, TX7, 6), (RX8, TX8, 41)]
end
section
theorem dX0_init_0 : decode cX0_init 0 = .ok (.aload_n 0, 1) := by decide +kernel
theorem dX0_init_1 : decode cX0_init 1 = .ok (.invokespecial 3, 3) := by decide +kernel
theorem dX0_init_4 : decode cX0_init 4 = .ok (.aload_n 0, 1) := by decide +kernel
theorem dX0_init_5 : decode cX0_init 5 = .ok (.aload_n 1, 1) := by decide +kernel
theorem dX0_init_6 : decode cX0_init 6 = .ok (.putfield 9, 3) := by decide +kernel
theorem dX0_init_9 : decode cX0_init 9 = .ok (.aload_n 0, 1) := by decide +kernel
theorem dX0_init_10 : decode cX0_init 10 = .ok (.aload_n 2, 1) := by decide +kernel
theorem dX0_init_11 : decode cX0_init 11 = .ok (.putfield 15, 3) := by decide +kernel
theorem dX0_init_14 : decode cX0_init 14 = .ok (.return_, 1) := by decide +kernel
theorem dX0_findsAllWell_0 : decode cX0_findsAllWell 0 = .ok (.iconst 0, 1) := by decide +kernel
theorem dX0_findsAllWell_1 : decode cX0_findsAllWell 1 = .ok (.istore_n 1, 1) := by decide +kernel
theorem dX0_findsAllWell_2 : decode cX0_findsAllWell 2 = .ok (.iconst 0, 1) := by decide +kernel
theorem dX0_findsAllWell_3 : decode cX0_findsAllWell 3 = .ok (.istore_n 2, 1) := by decide +kernel
theorem dX0_findsAllWell_4 : decode cX0_findsAllWell 4 = .ok (.iload_n 2, 1) := by decide +kernel
theorem dX0_findsAllWell_5 : decode cX0_findsAllWell 5 = .ok (.aload_n 0, 1) := by decide +kernel
theorem dX0_findsAllWell_6 : decode cX0_findsAllWell 6 = .ok (.getfield 15, 3) := by decide +kernel
theorem dX0_findsAllWell_9 : decode cX0_findsAllWell 9 = .ok (.getfield 19, 3) := by decide +kernel
theorem dX0_findsAllWell_12 : decode cX0_findsAllWell 12 = .ok (.if_icmp .ge 69, 3) := by decide +kernel
theorem dX0_findsAllWell_15 : decode cX0_findsAllWell 15 = .ok (.aload_n 0, 1) := by decide +kernel
theorem dX0_findsAllWell_16 : decode cX0_findsAllWell 16 = .ok (.getfield 15, 3) := by decide +kernel
theorem dX0_findsAllWell_19 : decode cX0_findsAllWell 19 = .ok (.getfield 25, 3) := by decide +kernel
theorem dX0_findsAllWell_22 : decode cX0_findsAllWell 22 = .ok (.iload_n 2, 1) := by decide +kernel
theorem dX0_findsAllWell_23 : decode cX0_findsAllWell 23 = .ok (.iaload, 1) := by decide +kernel
theorem dX0_findsAllWell_24 : decode cX0_findsAllWell 24 = .ok (.istore_n 3, 1) := by decide +kernel
theorem dX0_findsAllWell_25 : decode cX0_findsAllWell 25 = .ok (.aload_n 0, 1) := by decide +kernel
theorem dX0_findsAllWell_26 : decode cX0_findsAllWell 26 = .ok (.iload_n 3, 1) := by decide +kernel
theorem dX0_findsAllWell_27 : decode cX0_findsAllWell 27 = .ok (.invokevirtual 29, 3) := by decide +kernel
theorem dX0_findsAllWell_30 : decode cX0_findsAllWell 30 = .ok (.ifCond .eq 19, 3) := by decide +kernel
theorem dX0_findsAllWell_33 : decode cX0_findsAllWell 33 = .ok (.aload_n 0, 1) := by decide +kernel
theorem dX0_findsAllWell_34 : decode cX0_findsAllWell 34 = .ok (.iload_n 3, 1) := by decide +kernel
theorem dX0_findsAllWell_35 : decode cX0_findsAllWell 35 = .ok (.invokevirtual 33, 3) := by decide +kernel
theorem dX0_findsAllWell_38 : decode cX0_findsAllWell 38 = .ok (.ifCond .eq 11, 3) := by decide +kernel
theorem dX0_findsAllWell_41 : decode cX0_findsAllWell 41 = .ok (.aload_n 0, 1) := by decide +kernel
theorem dX0_findsAllWell_42 : decode cX0_findsAllWell 42 = .ok (.iload_n 3, 1) := by decide +kernel
theorem dX0_findsAllWell_43 : decode cX0_findsAllWell 43 = .ok (.invokevirtual 36, 3) := by decide +kernel
theorem dX0_findsAllWell_46 : decode cX0_findsAllWell 46 = .ok (.ifCond .ne 5, 3) := by decide +kernel
theorem dX0_findsAllWell_49 : decode cX0_findsAllWell 49 = .ok (.iconst 0, 1) := by decide +kernel
theorem dX0_findsAllWell_50 : decode cX0_findsAllWell 50 = .ok (.ireturn, 1) := by decide +kernel
theorem dX0_findsAllWell_51 : decode cX0_findsAllWell 51 = .ok (.aload_n 0, 1) := by decide +kernel
theorem dX0_findsAllWell_52 : decode cX0_findsAllWell 52 = .ok (.getfield 9, 3) := by decide +kernel
theorem dX0_findsAllWell_55 : decode cX0_findsAllWell 55 = .ok (.getfield 39, 3) := by decide +kernel
theorem dX0_findsAllWell_58 : decode cX0_findsAllWell 58 = .ok (.iload_n 3, 1) := by decide +kernel
theorem dX0_findsAllWell_59 : decode cX0_findsAllWell 59 = .ok (.iaload, 1) := by decide +kernel
theorem dX0_findsAllWell_60 : decode cX0_findsAllWell 60 = .ok (.ifCond .ne 15, 3) := by decide +kernel
theorem dX0_findsAllWell_63 : decode cX0_findsAllWell 63 = .ok (.iload_n 1, 1) := by decide +kernel
theorem dX0_findsAllWell_64 : decode cX0_findsAllWell 64 = .ok (.aload_n 0, 1) := by decide +kernel
theorem dX0_findsAllWell_65 : decode cX0_findsAllWell 65 = .ok (.getfield 9, 3) := by decide +kernel
theorem dX0_findsAllWell_68 : decode cX0_findsAllWell 68 = .ok (.getfield 44, 3) := by decide +kernel
theorem dX0_findsAllWell_71 : decode cX0_findsAllWell 71 = .ok (.iload_n 3, 1) := by decide +kernel
theorem dX0_findsAllWell_72 : decode cX0_findsAllWell 72 = .ok (.iaload, 1) := by decide +kernel
theorem dX0_findsAllWell_73 : decode cX0_findsAllWell 73 = .ok (.iadd, 1) := by decide +kernel
theorem dX0_findsAllWell_74 : decode cX0_findsAllWell 74 = .ok (.istore_n 1, 1) := by decide +kernel
theorem dX0_findsAllWell_75 : decode cX0_findsAllWell 75 = .ok (.iinc 2 1, 3) := by decide +kernel
theorem dX0_findsAllWell_78 : decode cX0_findsAllWell 78 = .ok (.goto (-74), 3) := by decide +kernel
theorem dX0_findsAllWell_81 : decode cX0_findsAllWell 81 = .ok (.iload_n 1, 1) := by decide +kernel
theorem dX0_findsAllWell_82 : decode cX0_findsAllWell 82 = .ok (.aload_n 0, 1) := by decide +kernel
theorem dX0_findsAllWell_83 : decode cX0_findsAllWell 83 = .ok (.getfield 9, 3) := by decide +kernel
theorem dX0_findsAllWell_86 : decode cX0_findsAllWell 86 = .ok (.getfield 47, 3) := by decide +kernel
theorem dX0_findsAllWell_89 : decode cX0_findsAllWell 89 = .ok (.if_icmp .ne 14, 3) := by decide +kernel
theorem dX0_findsAllWell_92 : decode cX0_findsAllWell 92 = .ok (.aload_n 0, 1) := by decide +kernel
theorem dX0_findsAllWell_93 : decode cX0_findsAllWell 93 = .ok (.invokevirtual 50, 3) := by decide +kernel
theorem dX0_findsAllWell_96 : decode cX0_findsAllWell 96 = .ok (.ifCond .eq 7, 3) := by decide +kernel
theorem dX0_findsAllWell_99 : decode cX0_findsAllWell 99 = .ok (.iconst 1, 1) := by decide +kernel
theorem dX0_findsAllWell_100 : decode cX0_findsAllWell 100 = .ok (.goto 4, 3) := by decide +kernel
theorem dX0_findsAllWell_103 : decode cX0_findsAllWell 103 = .ok (.iconst 0, 1) := by decide +kernel
theorem dX0_findsAllWell_104 : decode cX0_findsAllWell 104 = .ok (.ireturn, 1) := by decide +kernel
theorem dX0_holdsEnough_0 : decode cX0_holdsEnough 0 = .ok (.aload_n 0, 1) := by decide +kernel
theorem dX0_holdsEnough_1 : decode cX0_holdsEnough 1 = .ok (.getfield 9, 3) := by decide +kernel
theorem dX0_holdsEnough_4 : decode cX0_holdsEnough 4 = .ok (.getfield 54, 3) := by decide +kernel
theorem dX0_holdsEnough_7 : decode cX0_holdsEnough 7 = .ok (.istore_n 2, 1) := by decide +kernel
theorem dX0_holdsEnough_8 : decode cX0_holdsEnough 8 = .ok (.iload_n 1, 1) := by decide +kernel
theorem dX0_holdsEnough_9 : decode cX0_holdsEnough 9 = .ok (.aload_n 0, 1) := by decide +kernel
theorem dX0_holdsEnough_10 : decode cX0_holdsEnough 10 = .ok (.getfield 15, 3) := by decide +kernel
theorem dX0_holdsEnough_13 : decode cX0_holdsEnough 13 = .ok (.getfield 57, 3) := by decide +kernel
theorem dX0_holdsEnough_16 : decode cX0_holdsEnough 16 = .ok (.if_icmp .ne 21, 3) := by decide +kernel
theorem dX0_holdsEnough_19 : decode cX0_holdsEnough 19 = .ok (.aload_n 0, 1) := by decide +kernel
theorem dX0_holdsEnough_20 : decode cX0_holdsEnough 20 = .ok (.getfield 9, 3) := by decide +kernel
theorem dX0_holdsEnough_23 : decode cX0_holdsEnough 23 = .ok (.getfield 39, 3) := by decide +kernel
theorem dX0_holdsEnough_26 : decode cX0_holdsEnough 26 = .ok (.iload_n 1, 1) := by decide +kernel
theorem dX0_holdsEnough_27 : decode cX0_holdsEnough 27 = .ok (.iaload, 1) := by decide +kernel
theorem dX0_holdsEnough_28 : decode cX0_holdsEnough 28 = .ok (.ifCond .ne 7, 3) := by decide +kernel
theorem dX0_holdsEnough_31 : decode cX0_holdsEnough 31 = .ok (.iconst 0, 1) := by decide +kernel
theorem dX0_holdsEnough_32 : decode cX0_holdsEnough 32 = .ok (.goto 4, 3) := by decide +kernel
theorem dX0_holdsEnough_35 : decode cX0_holdsEnough 35 = .ok (.iconst 2, 1) := by decide +kernel
theorem dX0_holdsEnough_36 : decode cX0_holdsEnough 36 = .ok (.istore_n 2, 1) := by decide +kernel
theorem dX0_holdsEnough_37 : decode cX0_holdsEnough 37 = .ok (.aload_n 0, 1) := by decide +kernel
theorem dX0_holdsEnough_38 : decode cX0_holdsEnough 38 = .ok (.getfield 9, 3) := by decide +kernel
theorem dX0_holdsEnough_41 : decode cX0_holdsEnough 41 = .ok (.getfield 44, 3) := by decide +kernel
theorem dX0_holdsEnough_44 : decode cX0_holdsEnough 44 = .ok (.iload_n 1, 1) := by decide +kernel
theorem dX0_holdsEnough_45 : decode cX0_holdsEnough 45 = .ok (.iaload, 1) := by decide +kernel
theorem dX0_holdsEnough_46 : decode cX0_holdsEnough 46 = .ok (.iload_n 2, 1) := by decide +kernel
theorem dX0_holdsEnough_47 : decode cX0_holdsEnough 47 = .ok (.if_icmp .lt 26, 3) := by decide +kernel
theorem dX0_holdsEnough_50 : decode cX0_holdsEnough 50 = .ok (.aload_n 0, 1) := by decide +kernel
theorem dX0_holdsEnough_51 : decode cX0_holdsEnough 51 = .ok (.getfield 9, 3) := by decide +kernel
theorem dX0_holdsEnough_54 : decode cX0_holdsEnough 54 = .ok (.getfield 44, 3) := by decide +kernel
theorem dX0_holdsEnough_57 : decode cX0_holdsEnough 57 = .ok (.iload_n 1, 1) := by decide +kernel
theorem dX0_holdsEnough_58 : decode cX0_holdsEnough 58 = .ok (.iaload, 1) := by decide +kernel
theorem dX0_holdsEnough_59 : decode cX0_holdsEnough 59 = .ok (.aload_n 0, 1) := by decide +kernel
theorem dX0_holdsEnough_60 : decode cX0_holdsEnough 60 = .ok (.getfield 9, 3) := by decide +kernel
theorem dX0_holdsEnough_63 : decode cX0_holdsEnough 63 = .ok (.getfield 60, 3) := by decide +kernel
theorem dX0_holdsEnough_66 : decode cX0_holdsEnough 66 = .ok (.if_icmp .gt 7, 3) := by decide +kernel
theorem dX0_holdsEnough_69 : decode cX0_holdsEnough 69 = .ok (.iconst 1, 1) := by decide +kernel
theorem dX0_holdsEnough_70 : decode cX0_holdsEnough 70 = .ok (.goto 4, 3) := by decide +kernel
theorem dX0_holdsEnough_73 : decode cX0_holdsEnough 73 = .ok (.iconst 0, 1) := by decide +kernel
theorem dX0_holdsEnough_74 : decode cX0_holdsEnough 74 = .ok (.ireturn, 1) := by decide +kernel
theorem dX0_holdsRightly_0 : decode cX0_holdsRightly 0 = .ok (.iconst 0, 1) := by decide +kernel
theorem dX0_holdsRightly_1 : decode cX0_holdsRightly 1 = .ok (.istore_n 2, 1) := by decide +kernel
theorem dX0_holdsRightly_2 : decode cX0_holdsRightly 2 = .ok (.iload_n 2, 1) := by decide +kernel
theorem dX0_holdsRightly_3 : decode cX0_holdsRightly 3 = .ok (.aload_n 0, 1) := by decide +kernel
theorem dX0_holdsRightly_4 : decode cX0_holdsRightly 4 = .ok (.getfield 9, 3) := by decide +kernel
theorem dX0_holdsRightly_7 : decode cX0_holdsRightly 7 = .ok (.getfield 44, 3) := by decide +kernel
theorem dX0_holdsRightly_10 : decode cX0_holdsRightly 10 = .ok (.iload_n 1, 1) := by decide +kernel
theorem dX0_holdsRightly_11 : decode cX0_holdsRightly 11 = .ok (.iaload, 1) := by decide +kernel
theorem dX0_holdsRightly_12 : decode cX0_holdsRightly 12 = .ok (.if_icmp .ge 57, 3) := by decide +kernel
theorem dX0_holdsRightly_15 : decode cX0_holdsRightly 15 = .ok (.aload_n 0, 1) := by decide +kernel
theorem dX0_holdsRightly_16 : decode cX0_holdsRightly 16 = .ok (.getfield 9, 3) := by decide +kernel
theorem dX0_holdsRightly_19 : decode cX0_holdsRightly 19 = .ok (.iload_n 1, 1) := by decide +kernel
theorem dX0_holdsRightly_20 : decode cX0_holdsRightly 20 = .ok (.iload_n 2, 1) := by decide +kernel
theorem dX0_holdsRightly_21 : decode cX0_holdsRightly 21 = .ok (.invokevirtual 63, 3) := by decide +kernel
theorem dX0_holdsRightly_24 : decode cX0_holdsRightly 24 = .ok (.istore_n 3, 1) := by decide +kernel
theorem dX0_holdsRightly_25 : decode cX0_holdsRightly 25 = .ok (.aload_n 0, 1) := by decide +kernel
theorem dX0_holdsRightly_26 : decode cX0_holdsRightly 26 = .ok (.getfield 9, 3) := by decide +kernel
theorem dX0_holdsRightly_29 : decode cX0_holdsRightly 29 = .ok (.getfield 39, 3) := by decide +kernel
theorem dX0_holdsRightly_32 : decode cX0_holdsRightly 32 = .ok (.iload_n 3, 1) := by decide +kernel
theorem dX0_holdsRightly_33 : decode cX0_holdsRightly 33 = .ok (.iaload, 1) := by decide +kernel
theorem dX0_holdsRightly_34 : decode cX0_holdsRightly 34 = .ok (.aload_n 0, 1) := by decide +kernel
theorem dX0_holdsRightly_35 : decode cX0_holdsRightly 35 = .ok (.getfield 9, 3) := by decide +kernel
theorem dX0_holdsRightly_38 : decode cX0_holdsRightly 38 = .ok (.getfield 39, 3) := by decide +kernel
theorem dX0_holdsRightly_41 : decode cX0_holdsRightly 41 = .ok (.iload_n 1, 1) := by decide +kernel
theorem dX0_holdsRightly_42 : decode cX0_holdsRightly 42 = .ok (.iaload, 1) := by decide +kernel
theorem dX0_holdsRightly_43 : decode cX0_holdsRightly 43 = .ok (.iconst 1, 1) := by decide +kernel
theorem dX0_holdsRightly_44 : decode cX0_holdsRightly 44 = .ok (.isub, 1) := by decide +kernel
theorem dX0_holdsRightly_45 : decode cX0_holdsRightly 45 = .ok (.if_icmp .ne 16, 3) := by decide +kernel
theorem dX0_holdsRightly_48 : decode cX0_holdsRightly 48 = .ok (.aload_n 0, 1) := by decide +kernel
theorem dX0_holdsRightly_49 : decode cX0_holdsRightly 49 = .ok (.getfield 9, 3) := by decide +kernel
theorem dX0_holdsRightly_52 : decode cX0_holdsRightly 52 = .ok (.getfield 67, 3) := by decide +kernel
theorem dX0_holdsRightly_55 : decode cX0_holdsRightly 55 = .ok (.iload_n 3, 1) := by decide +kernel
theorem dX0_holdsRightly_56 : decode cX0_holdsRightly 56 = .ok (.iaload, 1) := by decide +kernel
theorem dX0_holdsRightly_57 : decode cX0_holdsRightly 57 = .ok (.iload_n 1, 1) := by decide +kernel
theorem dX0_holdsRightly_58 : decode cX0_holdsRightly 58 = .ok (.if_icmp .eq 5, 3) := by decide +kernel
theorem dX0_holdsRightly_61 : decode cX0_holdsRightly 61 = .ok (.iconst 0, 1) := by decide +kernel
theorem dX0_holdsRightly_62 : decode cX0_holdsRightly 62 = .ok (.ireturn, 1) := by decide +kernel
theorem dX0_holdsRightly_63 : decode cX0_holdsRightly 63 = .ok (.iinc 2 1, 3) := by decide +kernel
theorem dX0_holdsRightly_66 : decode cX0_holdsRightly 66 = .ok (.goto (-64), 3) := by decide +kernel
theorem dX0_holdsRightly_69 : decode cX0_holdsRightly 69 = .ok (.iconst 1, 1) := by decide +kernel
theorem dX0_holdsRightly_70 : decode cX0_holdsRightly 70 = .ok (.ireturn, 1) := by decide +kernel
theorem dX0_isTight_0 : decode cX0_isTight 0 = .ok (.aload_n 0, 1) := by decide +kernel
theorem dX0_isTight_1 : decode cX0_isTight 1 = .ok (.getfield 9, 3) := by decide +kernel
theorem dX0_isTight_4 : decode cX0_isTight 4 = .ok (.sipush 805, 3) := by decide +kernel
theorem dX0_isTight_7 : decode cX0_isTight 7 = .ok (.iload_n 1, 1) := by decide +kernel
theorem dX0_isTight_8 : decode cX0_isTight 8 = .ok (.invokevirtual 70, 3) := by decide +kernel
theorem dX0_isTight_11 : decode cX0_isTight 11 = .ok (.aload_n 0, 1) := by decide +kernel
theorem dX0_isTight_12 : decode cX0_isTight 12 = .ok (.getfield 9, 3) := by decide +kernel
theorem dX0_isTight_15 : decode cX0_isTight 15 = .ok (.getfield 44, 3) := by decide +kernel
theorem dX0_isTight_18 : decode cX0_isTight 18 = .ok (.iload_n 1, 1) := by decide +kernel
theorem dX0_isTight_19 : decode cX0_isTight 19 = .ok (.iaload, 1) := by decide +kernel
theorem dX0_isTight_20 : decode cX0_isTight 20 = .ok (.ifCond .eq 17, 3) := by decide +kernel
theorem dX0_isTight_23 : decode cX0_isTight 23 = .ok (.aload_n 0, 1) := by decide +kernel
theorem dX0_isTight_24 : decode cX0_isTight 24 = .ok (.getfield 9, 3) := by decide +kernel
theorem dX0_isTight_27 : decode cX0_isTight 27 = .ok (.sipush 805, 3) := by decide +kernel
theorem dX0_isTight_30 : decode cX0_isTight 30 = .ok (.iload_n 1, 1) := by decide +kernel
theorem dX0_isTight_31 : decode cX0_isTight 31 = .ok (.invokevirtual 74, 3) := by decide +kernel
theorem dX0_isTight_34 : decode cX0_isTight 34 = .ok (.ifCond .eq 7, 3) := by decide +kernel
theorem dX0_isTight_37 : decode cX0_isTight 37 = .ok (.iconst 1, 1) := by decide +kernel
theorem dX0_isTight_38 : decode cX0_isTight 38 = .ok (.goto 4, 3) := by decide +kernel
theorem dX0_isTight_41 : decode cX0_isTight 41 = .ok (.iconst 0, 1) := by decide +kernel
theorem dX0_isTight_42 : decode cX0_isTight 42 = .ok (.ireturn, 1) := by decide +kernel
theorem dX0_noneIsTwice_0 : decode cX0_noneIsTwice 0 = .ok (.iconst 0, 1) := by decide +kernel
theorem dX0_noneIsTwice_1 : decode cX0_noneIsTwice 1 = .ok (.istore_n 1, 1) := by decide +kernel
theorem dX0_noneIsTwice_2 : decode cX0_noneIsTwice 2 = .ok (.iload_n 1, 1) := by decide +kernel
theorem dX0_noneIsTwice_3 : decode cX0_noneIsTwice 3 = .ok (.aload_n 0, 1) := by decide +kernel
theorem dX0_noneIsTwice_4 : decode cX0_noneIsTwice 4 = .ok (.getfield 9, 3) := by decide +kernel
theorem dX0_noneIsTwice_7 : decode cX0_noneIsTwice 7 = .ok (.getfield 78, 3) := by decide +kernel
theorem dX0_noneIsTwice_10 : decode cX0_noneIsTwice 10 = .ok (.if_icmp .ge 66, 3) := by decide +kernel
theorem dX0_noneIsTwice_13 : decode cX0_noneIsTwice 13 = .ok (.iload_n 1, 1) := by decide +kernel
theorem dX0_noneIsTwice_14 : decode cX0_noneIsTwice 14 = .ok (.iconst 1, 1) := by decide +kernel
theorem dX0_noneIsTwice_15 : decode cX0_noneIsTwice 15 = .ok (.iadd, 1) := by decide +kernel
theorem dX0_noneIsTwice_16 : decode cX0_noneIsTwice 16 = .ok (.istore_n 2, 1) := by decide +kernel
theorem dX0_noneIsTwice_17 : decode cX0_noneIsTwice 17 = .ok (.iload_n 2, 1) := by decide +kernel
theorem dX0_noneIsTwice_18 : decode cX0_noneIsTwice 18 = .ok (.aload_n 0, 1) := by decide +kernel
theorem dX0_noneIsTwice_19 : decode cX0_noneIsTwice 19 = .ok (.getfield 9, 3) := by decide +kernel
theorem dX0_noneIsTwice_22 : decode cX0_noneIsTwice 22 = .ok (.getfield 78, 3) := by decide +kernel
theorem dX0_noneIsTwice_25 : decode cX0_noneIsTwice 25 = .ok (.if_icmp .ge 45, 3) := by decide +kernel
theorem dX0_noneIsTwice_28 : decode cX0_noneIsTwice 28 = .ok (.aload_n 0, 1) := by decide +kernel
theorem dX0_noneIsTwice_29 : decode cX0_noneIsTwice 29 = .ok (.getfield 9, 3) := by decide +kernel
theorem dX0_noneIsTwice_32 : decode cX0_noneIsTwice 32 = .ok (.iload_n 1, 1) := by decide +kernel
theorem dX0_noneIsTwice_33 : decode cX0_noneIsTwice 33 = .ok (.invokevirtual 81, 3) := by decide +kernel
theorem dX0_noneIsTwice_36 : decode cX0_noneIsTwice 36 = .ok (.ifCond .eq 28, 3) := by decide +kernel
theorem dX0_noneIsTwice_39 : decode cX0_noneIsTwice 39 = .ok (.aload_n 0, 1) := by decide +kernel
theorem dX0_noneIsTwice_40 : decode cX0_noneIsTwice 40 = .ok (.getfield 9, 3) := by decide +kernel
theorem dX0_noneIsTwice_43 : decode cX0_noneIsTwice 43 = .ok (.iload_n 2, 1) := by decide +kernel
theorem dX0_noneIsTwice_44 : decode cX0_noneIsTwice 44 = .ok (.invokevirtual 81, 3) := by decide +kernel
theorem dX0_noneIsTwice_47 : decode cX0_noneIsTwice 47 = .ok (.ifCond .eq 17, 3) := by decide +kernel
theorem dX0_noneIsTwice_50 : decode cX0_noneIsTwice 50 = .ok (.aload_n 0, 1) := by decide +kernel
theorem dX0_noneIsTwice_51 : decode cX0_noneIsTwice 51 = .ok (.getfield 9, 3) := by decide +kernel
theorem dX0_noneIsTwice_54 : decode cX0_noneIsTwice 54 = .ok (.iload_n 1, 1) := by decide +kernel
theorem dX0_noneIsTwice_55 : decode cX0_noneIsTwice 55 = .ok (.iload_n 2, 1) := by decide +kernel
theorem dX0_noneIsTwice_56 : decode cX0_noneIsTwice 56 = .ok (.invokevirtual 84, 3) := by decide +kernel
theorem dX0_noneIsTwice_59 : decode cX0_noneIsTwice 59 = .ok (.ifCond .eq 5, 3) := by decide +kernel
theorem dX0_noneIsTwice_62 : decode cX0_noneIsTwice 62 = .ok (.iconst 0, 1) := by decide +kernel
theorem dX0_noneIsTwice_63 : decode cX0_noneIsTwice 63 = .ok (.ireturn, 1) := by decide +kernel
theorem dX0_noneIsTwice_64 : decode cX0_noneIsTwice 64 = .ok (.iinc 2 1, 3) := by decide +kernel
theorem dX0_noneIsTwice_67 : decode cX0_noneIsTwice 67 = .ok (.goto (-50), 3) := by decide +kernel
theorem dX0_noneIsTwice_70 : decode cX0_noneIsTwice 70 = .ok (.iinc 1 1, 3) := by decide +kernel
theorem dX0_noneIsTwice_73 : decode cX0_noneIsTwice 73 = .ok (.goto (-71), 3) := by decide +kernel
theorem dX0_noneIsTwice_76 : decode cX0_noneIsTwice 76 = .ok (.iconst 1, 1) := by decide +kernel
theorem dX0_noneIsTwice_77 : decode cX0_noneIsTwice 77 = .ok (.ireturn, 1) := by decide +kernel
theorem dX1_init_0 : decode cX1_init 0 = .ok (.aload_n 0, 1) := by decide +kernel
theorem dX1_init_1 : decode cX1_init 1 = .ok (.invokespecial 3, 3) := by decide +kernel
theorem dX1_init_4 : decode cX1_init 4 = .ok (.aload_n 0, 1) := by decide +kernel
theorem dX1_init_5 : decode cX1_init 5 = .ok (.sipush 400, 3) := by decide +kernel
theorem dX1_init_8 : decode cX1_init 8 = .ok (.newarray .int, 2) := by decide +kernel
theorem dX1_init_10 : decode cX1_init 10 = .ok (.putfield 9, 3) := by decide +kernel
theorem dX1_init_13 : decode cX1_init 13 = .ok (.aload_n 0, 1) := by decide +kernel
theorem dX1_init_14 : decode cX1_init 14 = .ok (.aload_n 1, 1) := by decide +kernel
theorem dX1_init_15 : decode cX1_init 15 = .ok (.putfield 15, 3) := by decide +kernel
theorem dX1_init_18 : decode cX1_init 18 = .ok (.aload_n 0, 1) := by decide +kernel
theorem dX1_init_19 : decode cX1_init 19 = .ok (.aload_n 2, 1) := by decide +kernel
theorem dX1_init_20 : decode cX1_init 20 = .ok (.putfield 19, 3) := by decide +kernel
theorem dX1_init_23 : decode cX1_init 23 = .ok (.return_, 1) := by decide +kernel
theorem dX1_buildAnew_0 : decode cX1_buildAnew 0 = .ok (.aload_n 0, 1) := by decide +kernel
theorem dX1_buildAnew_1 : decode cX1_buildAnew 1 = .ok (.invokevirtual 23, 3) := by decide +kernel
theorem dX1_buildAnew_4 : decode cX1_buildAnew 4 = .ok (.aload_n 0, 1) := by decide +kernel
theorem dX1_buildAnew_5 : decode cX1_buildAnew 5 = .ok (.getfield 26, 3) := by decide +kernel
theorem dX1_buildAnew_8 : decode cX1_buildAnew 8 = .ok (.ifCond .ne 11, 3) := by decide +kernel
theorem dX1_buildAnew_11 : decode cX1_buildAnew 11 = .ok (.aload_n 0, 1) := by decide +kernel
theorem dX1_buildAnew_12 : decode cX1_buildAnew 12 = .ok (.getfield 19, 3) := by decide +kernel
theorem dX1_buildAnew_15 : decode cX1_buildAnew 15 = .ok (.invokevirtual 30, 3) := by decide +kernel
theorem dX1_buildAnew_18 : decode cX1_buildAnew 18 = .ok (.return_, 1) := by decide +kernel
theorem dX1_buildAnew_19 : decode cX1_buildAnew 19 = .ok (.aload_n 0, 1) := by decide +kernel
theorem dX1_buildAnew_20 : decode cX1_buildAnew 20 = .ok (.invokevirtual 35, 3) := by decide +kernel
theorem dX1_buildAnew_23 : decode cX1_buildAnew 23 = .ok (.aload_n 0, 1) := by decide +kernel
theorem dX1_buildAnew_24 : decode cX1_buildAnew 24 = .ok (.getfield 15, 3) := by decide +kernel
theorem dX1_buildAnew_27 : decode cX1_buildAnew 27 = .ok (.invokevirtual 38, 3) := by decide +kernel
theorem dX1_buildAnew_30 : decode cX1_buildAnew 30 = .ok (.iconst 0, 1) := by decide +kernel
theorem dX1_buildAnew_31 : decode cX1_buildAnew 31 = .ok (.istore_n 1, 1) := by decide +kernel
theorem dX1_buildAnew_32 : decode cX1_buildAnew 32 = .ok (.iload_n 1, 1) := by decide +kernel
theorem dX1_buildAnew_33 : decode cX1_buildAnew 33 = .ok (.ifCond .eq 17, 3) := by decide +kernel
theorem dX1_buildAnew_36 : decode cX1_buildAnew 36 = .ok (.aload_n 0, 1) := by decide +kernel
theorem dX1_buildAnew_37 : decode cX1_buildAnew 37 = .ok (.getfield 26, 3) := by decide +kernel
theorem dX1_buildAnew_40 : decode cX1_buildAnew 40 = .ok (.iconst 1, 1) := by decide +kernel
theorem dX1_buildAnew_41 : decode cX1_buildAnew 41 = .ok (.if_icmp .le 20, 3) := by decide +kernel
theorem dX1_buildAnew_44 : decode cX1_buildAnew 44 = .ok (.iload_n 1, 1) := by decide +kernel
theorem dX1_buildAnew_45 : decode cX1_buildAnew 45 = .ok (.bipush 40, 2) := by decide +kernel
theorem dX1_buildAnew_47 : decode cX1_buildAnew 47 = .ok (.if_icmp .ge 14, 3) := by decide +kernel
theorem dX1_buildAnew_50 : decode cX1_buildAnew 50 = .ok (.aload_n 0, 1) := by decide +kernel
theorem dX1_buildAnew_51 : decode cX1_buildAnew 51 = .ok (.iload_n 1, 1) := by decide +kernel
theorem dX1_buildAnew_52 : decode cX1_buildAnew 52 = .ok (.invokevirtual 43, 3) := by decide +kernel
theorem dX1_buildAnew_55 : decode cX1_buildAnew 55 = .ok (.iinc 1 1, 3) := by decide +kernel
theorem dX1_buildAnew_58 : decode cX1_buildAnew 58 = .ok (.goto (-26), 3) := by decide +kernel
theorem dX1_buildAnew_61 : decode cX1_buildAnew 61 = .ok (.aload_n 0, 1) := by decide +kernel
theorem dX1_buildAnew_62 : decode cX1_buildAnew 62 = .ok (.getfield 19, 3) := by decide +kernel
theorem dX1_buildAnew_65 : decode cX1_buildAnew 65 = .ok (.aload_n 0, 1) := by decide +kernel
theorem dX1_buildAnew_66 : decode cX1_buildAnew 66 = .ok (.getfield 9, 3) := by decide +kernel
theorem dX1_buildAnew_69 : decode cX1_buildAnew 69 = .ok (.iconst 0, 1) := by decide +kernel
theorem dX1_buildAnew_70 : decode cX1_buildAnew 70 = .ok (.iaload, 1) := by decide +kernel
theorem dX1_buildAnew_71 : decode cX1_buildAnew 71 = .ok (.putfield 47, 3) := by decide +kernel
theorem dX1_buildAnew_74 : decode cX1_buildAnew 74 = .ok (.return_, 1) := by decide +kernel
theorem dX1_gather_0 : decode cX1_gather 0 = .ok (.aload_n 0, 1) := by decide +kernel
theorem dX1_gather_1 : decode cX1_gather 1 = .ok (.iconst 0, 1) := by decide +kernel
theorem dX1_gather_2 : decode cX1_gather 2 = .ok (.putfield 26, 3) := by decide +kernel
theorem dX1_gather_5 : decode cX1_gather 5 = .ok (.iconst 0, 1) := by decide +kernel
theorem dX1_gather_6 : decode cX1_gather 6 = .ok (.istore_n 1, 1) := by decide +kernel
theorem dX1_gather_7 : decode cX1_gather 7 = .ok (.iload_n 1, 1) := by decide +kernel
theorem dX1_gather_8 : decode cX1_gather 8 = .ok (.aload_n 0, 1) := by decide +kernel
theorem dX1_gather_9 : decode cX1_gather 9 = .ok (.getfield 15, 3) := by decide +kernel
theorem dX1_gather_12 : decode cX1_gather 12 = .ok (.getfield 50, 3) := by decide +kernel
theorem dX1_gather_15 : decode cX1_gather 15 = .ok (.if_icmp .ge 37, 3) := by decide +kernel
theorem dX1_gather_18 : decode cX1_gather 18 = .ok (.aload_n 0, 1) := by decide +kernel
theorem dX1_gather_19 : decode cX1_gather 19 = .ok (.getfield 15, 3) := by decide +kernel
theorem dX1_gather_22 : decode cX1_gather 22 = .ok (.iload_n 1, 1) := by decide +kernel
theorem dX1_gather_23 : decode cX1_gather 23 = .ok (.invokevirtual 53, 3) := by decide +kernel
theorem dX1_gather_26 : decode cX1_gather 26 = .ok (.ifCond .eq 20, 3) := by decide +kernel
theorem dX1_gather_29 : decode cX1_gather 29 = .ok (.aload_n 0, 1) := by decide +kernel
theorem dX1_gather_30 : decode cX1_gather 30 = .ok (.getfield 9, 3) := by decide +kernel
theorem dX1_gather_33 : decode cX1_gather 33 = .ok (.aload_n 0, 1) := by decide +kernel
theorem dX1_gather_34 : decode cX1_gather 34 = .ok (.dup, 1) := by decide +kernel
theorem dX1_gather_35 : decode cX1_gather 35 = .ok (.getfield 26, 3) := by decide +kernel
theorem dX1_gather_38 : decode cX1_gather 38 = .ok (.dup_x1, 1) := by decide +kernel
theorem dX1_gather_39 : decode cX1_gather 39 = .ok (.iconst 1, 1) := by decide +kernel
theorem dX1_gather_40 : decode cX1_gather 40 = .ok (.iadd, 1) := by decide +kernel
theorem dX1_gather_41 : decode cX1_gather 41 = .ok (.putfield 26, 3) := by decide +kernel
theorem dX1_gather_44 : decode cX1_gather 44 = .ok (.iload_n 1, 1) := by decide +kernel
theorem dX1_gather_45 : decode cX1_gather 45 = .ok (.iastore, 1) := by decide +kernel
theorem dX1_gather_46 : decode cX1_gather 46 = .ok (.iinc 1 1, 3) := by decide +kernel
theorem dX1_gather_49 : decode cX1_gather 49 = .ok (.goto (-42), 3) := by decide +kernel
theorem dX1_gather_52 : decode cX1_gather 52 = .ok (.return_, 1) := by decide +kernel
theorem dX1_sortSlices_0 : decode cX1_sortSlices 0 = .ok (.aload_n 0, 1) := by decide +kernel
theorem dX1_sortSlices_1 : decode cX1_sortSlices 1 = .ok (.iconst 0, 1) := by decide +kernel
theorem dX1_sortSlices_2 : decode cX1_sortSlices 2 = .ok (.aload_n 0, 1) := by decide +kernel
theorem dX1_sortSlices_3 : decode cX1_sortSlices 3 = .ok (.getfield 26, 3) := by decide +kernel
theorem dX1_sortSlices_6 : decode cX1_sortSlices 6 = .ok (.iconst 0, 1) := by decide +kernel
theorem dX1_sortSlices_7 : decode cX1_sortSlices 7 = .ok (.invokevirtual 57, 3) := by decide +kernel
theorem dX1_sortSlices_10 : decode cX1_sortSlices 10 = .ok (.aload_n 0, 1) := by decide +kernel
theorem dX1_sortSlices_11 : decode cX1_sortSlices 11 = .ok (.aload_n 0, 1) := by decide +kernel
theorem dX1_sortSlices_12 : decode cX1_sortSlices 12 = .ok (.getfield 26, 3) := by decide +kernel
theorem dX1_sortSlices_15 : decode cX1_sortSlices 15 = .ok (.invokevirtual 61, 3) := by decide +kernel
theorem dX1_sortSlices_18 : decode cX1_sortSlices 18 = .ok (.istore_n 1, 1) := by decide +kernel
theorem dX1_sortSlices_19 : decode cX1_sortSlices 19 = .ok (.iconst 1, 1) := by decide +kernel
theorem dX1_sortSlices_20 : decode cX1_sortSlices 20 = .ok (.istore_n 2, 1) := by decide +kernel
theorem dX1_sortSlices_21 : decode cX1_sortSlices 21 = .ok (.iload_n 2, 1) := by decide +kernel
theorem dX1_sortSlices_22 : decode cX1_sortSlices 22 = .ok (.iload_n 2, 1) := by decide +kernel
theorem dX1_sortSlices_23 : decode cX1_sortSlices 23 = .ok (.imul, 1) := by decide +kernel
theorem dX1_sortSlices_24 : decode cX1_sortSlices 24 = .ok (.iload_n 1, 1) := by decide +kernel
theorem dX1_sortSlices_25 : decode cX1_sortSlices 25 = .ok (.if_icmp .ge 9, 3) := by decide +kernel
theorem dX1_sortSlices_28 : decode cX1_sortSlices 28 = .ok (.iinc 2 1, 3) := by decide +kernel
theorem dX1_sortSlices_31 : decode cX1_sortSlices 31 = .ok (.goto (-10), 3) := by decide +kernel
theorem dX1_sortSlices_34 : decode cX1_sortSlices 34 = .ok (.iload_n 2, 1) := by decide +kernel
theorem dX1_sortSlices_35 : decode cX1_sortSlices 35 = .ok (.aload_n 0, 1) := by decide +kernel
theorem dX1_sortSlices_36 : decode cX1_sortSlices 36 = .ok (.getfield 15, 3) := by decide +kernel
theorem dX1_sortSlices_39 : decode cX1_sortSlices 39 = .ok (.getfield 65, 3) := by decide +kernel
theorem dX1_sortSlices_42 : decode cX1_sortSlices 42 = .ok (.imul, 1) := by decide +kernel
theorem dX1_sortSlices_43 : decode cX1_sortSlices 43 = .ok (.istore_n 3, 1) := by decide +kernel
theorem dX1_sortSlices_44 : decode cX1_sortSlices 44 = .ok (.iconst 0, 1) := by decide +kernel
theorem dX1_sortSlices_45 : decode cX1_sortSlices 45 = .ok (.istore 4, 2) := by decide +kernel
theorem dX1_sortSlices_47 : decode cX1_sortSlices 47 = .ok (.iload 4, 2) := by decide +kernel
theorem dX1_sortSlices_49 : decode cX1_sortSlices 49 = .ok (.iload_n 2, 1) := by decide +kernel
theorem dX1_sortSlices_50 : decode cX1_sortSlices 50 = .ok (.if_icmp .ge 31, 3) := by decide +kernel
theorem dX1_sortSlices_53 : decode cX1_sortSlices 53 = .ok (.aload_n 0, 1) := by decide +kernel
theorem dX1_sortSlices_54 : decode cX1_sortSlices 54 = .ok (.iload 4, 2) := by decide +kernel
theorem dX1_sortSlices_56 : decode cX1_sortSlices 56 = .ok (.iload_n 3, 1) := by decide +kernel
theorem dX1_sortSlices_57 : decode cX1_sortSlices 57 = .ok (.imul, 1) := by decide +kernel
theorem dX1_sortSlices_58 : decode cX1_sortSlices 58 = .ok (.aload_n 0, 1) := by decide +kernel
theorem dX1_sortSlices_59 : decode cX1_sortSlices 59 = .ok (.getfield 26, 3) := by decide +kernel
theorem dX1_sortSlices_62 : decode cX1_sortSlices 62 = .ok (.iload 4, 2) := by decide +kernel
theorem dX1_sortSlices_64 : decode cX1_sortSlices 64 = .ok (.iconst 1, 1) := by decide +kernel
theorem dX1_sortSlices_65 : decode cX1_sortSlices 65 = .ok (.iadd, 1) := by decide +kernel
theorem dX1_sortSlices_66 : decode cX1_sortSlices 66 = .ok (.iload_n 3, 1) := by decide +kernel
theorem dX1_sortSlices_67 : decode cX1_sortSlices 67 = .ok (.imul, 1) := by decide +kernel
theorem dX1_sortSlices_68 : decode cX1_sortSlices 68 = .ok (.invokestatic 68, 3) := by decide +kernel
theorem dX1_sortSlices_71 : decode cX1_sortSlices 71 = .ok (.iconst 1, 1) := by decide +kernel
theorem dX1_sortSlices_72 : decode cX1_sortSlices 72 = .ok (.invokevirtual 57, 3) := by decide +kernel
theorem dX1_sortSlices_75 : decode cX1_sortSlices 75 = .ok (.iinc 4 1, 3) := by decide +kernel
theorem dX1_sortSlices_78 : decode cX1_sortSlices 78 = .ok (.goto (-31), 3) := by decide +kernel
theorem dX1_sortSlices_81 : decode cX1_sortSlices 81 = .ok (.return_, 1) := by decide +kernel
theorem dX1_groupsOf_0 : decode cX1_groupsOf 0 = .ok (.iload_n 1, 1) := by decide +kernel
theorem dX1_groupsOf_1 : decode cX1_groupsOf 1 = .ok (.aload_n 0, 1) := by decide +kernel
theorem dX1_groupsOf_2 : decode cX1_groupsOf 2 = .ok (.getfield 15, 3) := by decide +kernel
theorem dX1_groupsOf_5 : decode cX1_groupsOf 5 = .ok (.getfield 65, 3) := by decide +kernel
theorem dX1_groupsOf_8 : decode cX1_groupsOf 8 = .ok (.iadd, 1) := by decide +kernel
theorem dX1_groupsOf_9 : decode cX1_groupsOf 9 = .ok (.iconst 1, 1) := by decide +kernel
theorem dX1_groupsOf_10 : decode cX1_groupsOf 10 = .ok (.isub, 1) := by decide +kernel
theorem dX1_groupsOf_11 : decode cX1_groupsOf 11 = .ok (.aload_n 0, 1) := by decide +kernel
theorem dX1_groupsOf_12 : decode cX1_groupsOf 12 = .ok (.getfield 15, 3) := by decide +kernel
theorem dX1_groupsOf_15 : decode cX1_groupsOf 15 = .ok (.getfield 65, 3) := by decide +kernel
theorem dX1_groupsOf_18 : decode cX1_groupsOf 18 = .ok (.idiv, 1) := by decide +kernel
theorem dX1_groupsOf_19 : decode cX1_groupsOf 19 = .ok (.ireturn, 1) := by decide +kernel
theorem dX1_sort_0 : decode cX1_sort 0 = .ok (.getstatic 74, 3) := by decide +kernel
theorem dX1_sort_3 : decode cX1_sort 3 = .ok (.astore 4, 2) := by decide +kernel
theorem dX1_sort_5 : decode cX1_sort 5 = .ok (.aload 4, 2) := by decide +kernel
theorem dX1_sort_7 : decode cX1_sort 7 = .ok (.arraylength, 1) := by decide +kernel
theorem dX1_sort_8 : decode cX1_sort 8 = .ok (.istore 5, 2) := by decide +kernel
theorem dX1_sort_10 : decode cX1_sort 10 = .ok (.iconst 0, 1) := by decide +kernel
theorem dX1_sort_11 : decode cX1_sort 11 = .ok (.istore 6, 2) := by decide +kernel
theorem dX1_sort_13 : decode cX1_sort 13 = .ok (.iload 6, 2) := by decide +kernel
theorem dX1_sort_15 : decode cX1_sort 15 = .ok (.iload 5, 2) := by decide +kernel
theorem dX1_sort_17 : decode cX1_sort 17 = .ok (.if_icmp .ge 112, 3) := by decide +kernel
theorem dX1_sort_20 : decode cX1_sort 20 = .ok (.aload 4, 2) := by decide +kernel
theorem dX1_sort_22 : decode cX1_sort 22 = .ok (.iload 6, 2) := by decide +kernel
theorem dX1_sort_24 : decode cX1_sort 24 = .ok (.iaload, 1) := by decide +kernel
theorem dX1_sort_25 : decode cX1_sort 25 = .ok (.istore 7, 2) := by decide +kernel
theorem dX1_sort_27 : decode cX1_sort 27 = .ok (.iload_n 1, 1) := by decide +kernel
theorem dX1_sort_28 : decode cX1_sort 28 = .ok (.iload 7, 2) := by decide +kernel
theorem dX1_sort_30 : decode cX1_sort 30 = .ok (.iadd, 1) := by decide +kernel
theorem dX1_sort_31 : decode cX1_sort 31 = .ok (.istore 8, 2) := by decide +kernel
theorem dX1_sort_33 : decode cX1_sort 33 = .ok (.iload 8, 2) := by decide +kernel
theorem dX1_sort_35 : decode cX1_sort 35 = .ok (.iload_n 2, 1) := by decide +kernel
theorem dX1_sort_36 : decode cX1_sort 36 = .ok (.if_icmp .ge 87, 3) := by decide +kernel
theorem dX1_sort_39 : decode cX1_sort 39 = .ok (.aload_n 0, 1) := by decide +kernel
theorem dX1_sort_40 : decode cX1_sort 40 = .ok (.getfield 9, 3) := by decide +kernel
theorem dX1_sort_43 : decode cX1_sort 43 = .ok (.iload 8, 2) := by decide +kernel
theorem dX1_sort_45 : decode cX1_sort 45 = .ok (.iaload, 1) := by decide +kernel
theorem dX1_sort_46 : decode cX1_sort 46 = .ok (.istore 9, 2) := by decide +kernel
theorem dX1_sort_48 : decode cX1_sort 48 = .ok (.iload 8, 2) := by decide +kernel
theorem dX1_sort_50 : decode cX1_sort 50 = .ok (.istore 10, 2) := by decide +kernel
theorem dX1_sort_52 : decode cX1_sort 52 = .ok (.iload 10, 2) := by decide +kernel
theorem dX1_sort_54 : decode cX1_sort 54 = .ok (.iload 7, 2) := by decide +kernel
theorem dX1_sort_56 : decode cX1_sort 56 = .ok (.isub, 1) := by decide +kernel
theorem dX1_sort_57 : decode cX1_sort 57 = .ok (.iload_n 1, 1) := by decide +kernel
theorem dX1_sort_58 : decode cX1_sort 58 = .ok (.if_icmp .lt 50, 3) := by decide +kernel
theorem dX1_sort_61 : decode cX1_sort 61 = .ok (.aload_n 0, 1) := by decide +kernel
theorem dX1_sort_62 : decode cX1_sort 62 = .ok (.iload 9, 2) := by decide +kernel
theorem dX1_sort_64 : decode cX1_sort 64 = .ok (.aload_n 0, 1) := by decide +kernel
theorem dX1_sort_65 : decode cX1_sort 65 = .ok (.getfield 9, 3) := by decide +kernel
theorem dX1_sort_68 : decode cX1_sort 68 = .ok (.iload 10, 2) := by decide +kernel
theorem dX1_sort_70 : decode cX1_sort 70 = .ok (.iload 7, 2) := by decide +kernel
theorem dX1_sort_72 : decode cX1_sort 72 = .ok (.isub, 1) := by decide +kernel
theorem dX1_sort_73 : decode cX1_sort 73 = .ok (.iaload, 1) := by decide +kernel
theorem dX1_sort_74 : decode cX1_sort 74 = .ok (.iload_n 3, 1) := by decide +kernel
theorem dX1_sort_75 : decode cX1_sort 75 = .ok (.invokevirtual 77, 3) := by decide +kernel
theorem dX1_sort_78 : decode cX1_sort 78 = .ok (.ifCond .ge 30, 3) := by decide +kernel
theorem dX1_sort_81 : decode cX1_sort 81 = .ok (.aload_n 0, 1) := by decide +kernel
theorem dX1_sort_82 : decode cX1_sort 82 = .ok (.getfield 9, 3) := by decide +kernel
theorem dX1_sort_85 : decode cX1_sort 85 = .ok (.iload 10, 2) := by decide +kernel
theorem dX1_sort_87 : decode cX1_sort 87 = .ok (.aload_n 0, 1) := by decide +kernel
theorem dX1_sort_88 : decode cX1_sort 88 = .ok (.getfield 9, 3) := by decide +kernel
theorem dX1_sort_91 : decode cX1_sort 91 = .ok (.iload 10, 2) := by decide +kernel
theorem dX1_sort_93 : decode cX1_sort 93 = .ok (.iload 7, 2) := by decide +kernel
theorem dX1_sort_95 : decode cX1_sort 95 = .ok (.isub, 1) := by decide +kernel
theorem dX1_sort_96 : decode cX1_sort 96 = .ok (.iaload, 1) := by decide +kernel
theorem dX1_sort_97 : decode cX1_sort 97 = .ok (.iastore, 1) := by decide +kernel
theorem dX1_sort_98 : decode cX1_sort 98 = .ok (.iload 10, 2) := by decide +kernel
theorem dX1_sort_100 : decode cX1_sort 100 = .ok (.iload 7, 2) := by decide +kernel
theorem dX1_sort_102 : decode cX1_sort 102 = .ok (.isub, 1) := by decide +kernel
theorem dX1_sort_103 : decode cX1_sort 103 = .ok (.istore 10, 2) := by decide +kernel
theorem dX1_sort_105 : decode cX1_sort 105 = .ok (.goto (-53), 3) := by decide +kernel
theorem dX1_sort_108 : decode cX1_sort 108 = .ok (.aload_n 0, 1) := by decide +kernel
theorem dX1_sort_109 : decode cX1_sort 109 = .ok (.getfield 9, 3) := by decide +kernel
theorem dX1_sort_112 : decode cX1_sort 112 = .ok (.iload 10, 2) := by decide +kernel
theorem dX1_sort_114 : decode cX1_sort 114 = .ok (.iload 9, 2) := by decide +kernel
theorem dX1_sort_116 : decode cX1_sort 116 = .ok (.iastore, 1) := by decide +kernel
theorem dX1_sort_117 : decode cX1_sort 117 = .ok (.iinc 8 1, 3) := by decide +kernel
theorem dX1_sort_120 : decode cX1_sort 120 = .ok (.goto (-87), 3) := by decide +kernel
theorem dX1_sort_123 : decode cX1_sort 123 = .ok (.iinc 6 1, 3) := by decide +kernel
theorem dX1_sort_126 : decode cX1_sort 126 = .ok (.goto (-113), 3) := by decide +kernel
theorem dX1_sort_129 : decode cX1_sort 129 = .ok (.return_, 1) := by decide +kernel
theorem dX1_compare_0 : decode cX1_compare 0 = .ok (.aload_n 0, 1) := by decide +kernel
theorem dX1_compare_1 : decode cX1_compare 1 = .ok (.getfield 15, 3) := by decide +kernel
theorem dX1_compare_4 : decode cX1_compare 4 = .ok (.getfield 81, 3) := by decide +kernel
theorem dX1_compare_7 : decode cX1_compare 7 = .ok (.iload_n 1, 1) := by decide +kernel
theorem dX1_compare_8 : decode cX1_compare 8 = .ok (.iaload, 1) := by decide +kernel
theorem dX1_compare_9 : decode cX1_compare 9 = .ok (.aload_n 0, 1) := by decide +kernel
theorem dX1_compare_10 : decode cX1_compare 10 = .ok (.getfield 15, 3) := by decide +kernel
theorem dX1_compare_13 : decode cX1_compare 13 = .ok (.getfield 84, 3) := by decide +kernel
theorem dX1_compare_16 : decode cX1_compare 16 = .ok (.iload_n 1, 1) := by decide +kernel
theorem dX1_compare_17 : decode cX1_compare 17 = .ok (.iaload, 1) := by decide +kernel
theorem dX1_compare_18 : decode cX1_compare 18 = .ok (.iadd, 1) := by decide +kernel
theorem dX1_compare_19 : decode cX1_compare 19 = .ok (.aload_n 0, 1) := by decide +kernel
theorem dX1_compare_20 : decode cX1_compare 20 = .ok (.getfield 15, 3) := by decide +kernel
theorem dX1_compare_23 : decode cX1_compare 23 = .ok (.getfield 81, 3) := by decide +kernel
theorem dX1_compare_26 : decode cX1_compare 26 = .ok (.iload_n 2, 1) := by decide +kernel
theorem dX1_compare_27 : decode cX1_compare 27 = .ok (.iaload, 1) := by decide +kernel
theorem dX1_compare_28 : decode cX1_compare 28 = .ok (.aload_n 0, 1) := by decide +kernel
theorem dX1_compare_29 : decode cX1_compare 29 = .ok (.getfield 15, 3) := by decide +kernel
theorem dX1_compare_32 : decode cX1_compare 32 = .ok (.getfield 84, 3) := by decide +kernel
theorem dX1_compare_35 : decode cX1_compare 35 = .ok (.iload_n 2, 1) := by decide +kernel
theorem dX1_compare_36 : decode cX1_compare 36 = .ok (.iaload, 1) := by decide +kernel
theorem dX1_compare_37 : decode cX1_compare 37 = .ok (.iadd, 1) := by decide +kernel
theorem dX1_compare_38 : decode cX1_compare 38 = .ok (.invokestatic 87, 3) := by decide +kernel
theorem dX1_compare_41 : decode cX1_compare 41 = .ok (.istore 4, 2) := by decide +kernel
theorem dX1_compare_43 : decode cX1_compare 43 = .ok (.aload_n 0, 1) := by decide +kernel
theorem dX1_compare_44 : decode cX1_compare 44 = .ok (.getfield 15, 3) := by decide +kernel
theorem dX1_compare_47 : decode cX1_compare 47 = .ok (.getfield 91, 3) := by decide +kernel
theorem dX1_compare_50 : decode cX1_compare 50 = .ok (.iload_n 1, 1) := by decide +kernel
theorem dX1_compare_51 : decode cX1_compare 51 = .ok (.iaload, 1) := by decide +kernel
theorem dX1_compare_52 : decode cX1_compare 52 = .ok (.aload_n 0, 1) := by decide +kernel
theorem dX1_compare_53 : decode cX1_compare 53 = .ok (.getfield 15, 3) := by decide +kernel
theorem dX1_compare_56 : decode cX1_compare 56 = .ok (.getfield 94, 3) := by decide +kernel
theorem dX1_compare_59 : decode cX1_compare 59 = .ok (.iload_n 1, 1) := by decide +kernel
theorem dX1_compare_60 : decode cX1_compare 60 = .ok (.iaload, 1) := by decide +kernel
theorem dX1_compare_61 : decode cX1_compare 61 = .ok (.iadd, 1) := by decide +kernel
theorem dX1_compare_62 : decode cX1_compare 62 = .ok (.aload_n 0, 1) := by decide +kernel
theorem dX1_compare_63 : decode cX1_compare 63 = .ok (.getfield 15, 3) := by decide +kernel
theorem dX1_compare_66 : decode cX1_compare 66 = .ok (.getfield 91, 3) := by decide +kernel
theorem dX1_compare_69 : decode cX1_compare 69 = .ok (.iload_n 2, 1) := by decide +kernel
theorem dX1_compare_70 : decode cX1_compare 70 = .ok (.iaload, 1) := by decide +kernel
theorem dX1_compare_71 : decode cX1_compare 71 = .ok (.aload_n 0, 1) := by decide +kernel
theorem dX1_compare_72 : decode cX1_compare 72 = .ok (.getfield 15, 3) := by decide +kernel
theorem dX1_compare_75 : decode cX1_compare 75 = .ok (.getfield 94, 3) := by decide +kernel
theorem dX1_compare_78 : decode cX1_compare 78 = .ok (.iload_n 2, 1) := by decide +kernel
theorem dX1_compare_79 : decode cX1_compare 79 = .ok (.iaload, 1) := by decide +kernel
theorem dX1_compare_80 : decode cX1_compare 80 = .ok (.iadd, 1) := by decide +kernel
theorem dX1_compare_81 : decode cX1_compare 81 = .ok (.invokestatic 87, 3) := by decide +kernel
theorem dX1_compare_84 : decode cX1_compare 84 = .ok (.istore 5, 2) := by decide +kernel
theorem dX1_compare_86 : decode cX1_compare 86 = .ok (.iload_n 3, 1) := by decide +kernel
theorem dX1_compare_87 : decode cX1_compare 87 = .ok (.ifCond .eq 8, 3) := by decide +kernel
theorem dX1_compare_90 : decode cX1_compare 90 = .ok (.iload 5, 2) := by decide +kernel
theorem dX1_compare_92 : decode cX1_compare 92 = .ok (.goto 5, 3) := by decide +kernel
theorem dX1_compare_95 : decode cX1_compare 95 = .ok (.iload 4, 2) := by decide +kernel
theorem dX1_compare_97 : decode cX1_compare 97 = .ok (.istore 6, 2) := by decide +kernel
theorem dX1_compare_99 : decode cX1_compare 99 = .ok (.iload_n 3, 1) := by decide +kernel
theorem dX1_compare_100 : decode cX1_compare 100 = .ok (.ifCond .eq 8, 3) := by decide +kernel
theorem dX1_compare_103 : decode cX1_compare 103 = .ok (.iload 4, 2) := by decide +kernel
theorem dX1_compare_105 : decode cX1_compare 105 = .ok (.goto 5, 3) := by decide +kernel
theorem dX1_compare_108 : decode cX1_compare 108 = .ok (.iload 5, 2) := by decide +kernel
theorem dX1_compare_110 : decode cX1_compare 110 = .ok (.istore 7, 2) := by decide +kernel
theorem dX1_compare_112 : decode cX1_compare 112 = .ok (.iload 6, 2) := by decide +kernel
theorem dX1_compare_114 : decode cX1_compare 114 = .ok (.ifCond .eq 6, 3) := by decide +kernel
theorem dX1_compare_117 : decode cX1_compare 117 = .ok (.iload 6, 2) := by decide +kernel
theorem dX1_compare_119 : decode cX1_compare 119 = .ok (.ireturn, 1) := by decide +kernel
theorem dX1_compare_120 : decode cX1_compare 120 = .ok (.iload 7, 2) := by decide +kernel
theorem dX1_compare_122 : decode cX1_compare 122 = .ok (.ifCond .eq 8, 3) := by decide +kernel
theorem dX1_compare_125 : decode cX1_compare 125 = .ok (.iload 7, 2) := by decide +kernel
theorem dX1_compare_127 : decode cX1_compare 127 = .ok (.goto 12, 3) := by decide +kernel
theorem dX1_compare_130 : decode cX1_compare 130 = .ok (.aload_n 0, 1) := by decide +kernel
theorem dX1_compare_131 : decode cX1_compare 131 = .ok (.getfield 15, 3) := by decide +kernel
theorem dX1_compare_134 : decode cX1_compare 134 = .ok (.iload_n 1, 1) := by decide +kernel
theorem dX1_compare_135 : decode cX1_compare 135 = .ok (.iload_n 2, 1) := by decide +kernel
theorem dX1_compare_136 : decode cX1_compare 136 = .ok (.invokevirtual 97, 3) := by decide +kernel
theorem dX1_compare_139 : decode cX1_compare 139 = .ok (.ireturn, 1) := by decide +kernel
theorem dX1_groupInto_0 : decode cX1_groupInto 0 = .ok (.aload_n 0, 1) := by decide +kernel
theorem dX1_groupInto_1 : decode cX1_groupInto 1 = .ok (.aload_n 0, 1) := by decide +kernel
theorem dX1_groupInto_2 : decode cX1_groupInto 2 = .ok (.getfield 26, 3) := by decide +kernel
theorem dX1_groupInto_5 : decode cX1_groupInto 5 = .ok (.invokevirtual 61, 3) := by decide +kernel
theorem dX1_groupInto_8 : decode cX1_groupInto 8 = .ok (.istore_n 2, 1) := by decide +kernel
theorem dX1_groupInto_9 : decode cX1_groupInto 9 = .ok (.iconst 0, 1) := by decide +kernel
theorem dX1_groupInto_10 : decode cX1_groupInto 10 = .ok (.istore_n 3, 1) := by decide +kernel
theorem dX1_groupInto_11 : decode cX1_groupInto 11 = .ok (.iload_n 3, 1) := by decide +kernel
theorem dX1_groupInto_12 : decode cX1_groupInto 12 = .ok (.iload_n 2, 1) := by decide +kernel
theorem dX1_groupInto_13 : decode cX1_groupInto 13 = .ok (.if_icmp .ge 74, 3) := by decide +kernel
theorem dX1_groupInto_16 : decode cX1_groupInto 16 = .ok (.aload_n 0, 1) := by decide +kernel
theorem dX1_groupInto_17 : decode cX1_groupInto 17 = .ok (.getfield 15, 3) := by decide +kernel
theorem dX1_groupInto_20 : decode cX1_groupInto 20 = .ok (.iload_n 1, 1) := by decide +kernel
theorem dX1_groupInto_21 : decode cX1_groupInto 21 = .ok (.invokevirtual 100, 3) := by decide +kernel
theorem dX1_groupInto_24 : decode cX1_groupInto 24 = .ok (.istore 4, 2) := by decide +kernel
theorem dX1_groupInto_26 : decode cX1_groupInto 26 = .ok (.aload_n 0, 1) := by decide +kernel
theorem dX1_groupInto_27 : decode cX1_groupInto 27 = .ok (.iload_n 3, 1) := by decide +kernel
theorem dX1_groupInto_28 : decode cX1_groupInto 28 = .ok (.iconst 1, 1) := by decide +kernel
theorem dX1_groupInto_29 : decode cX1_groupInto 29 = .ok (.iadd, 1) := by decide +kernel
theorem dX1_groupInto_30 : decode cX1_groupInto 30 = .ok (.iload_n 2, 1) := by decide +kernel
theorem dX1_groupInto_31 : decode cX1_groupInto 31 = .ok (.invokevirtual 103, 3) := by decide +kernel
theorem dX1_groupInto_34 : decode cX1_groupInto 34 = .ok (.istore 5, 2) := by decide +kernel
theorem dX1_groupInto_36 : decode cX1_groupInto 36 = .ok (.aload_n 0, 1) := by decide +kernel
theorem dX1_groupInto_37 : decode cX1_groupInto 37 = .ok (.iload_n 3, 1) := by decide +kernel
theorem dX1_groupInto_38 : decode cX1_groupInto 38 = .ok (.iload_n 2, 1) := by decide +kernel
theorem dX1_groupInto_39 : decode cX1_groupInto 39 = .ok (.invokevirtual 103, 3) := by decide +kernel
theorem dX1_groupInto_42 : decode cX1_groupInto 42 = .ok (.istore 6, 2) := by decide +kernel
theorem dX1_groupInto_44 : decode cX1_groupInto 44 = .ok (.iload 6, 2) := by decide +kernel
theorem dX1_groupInto_46 : decode cX1_groupInto 46 = .ok (.iload 5, 2) := by decide +kernel
theorem dX1_groupInto_48 : decode cX1_groupInto 48 = .ok (.if_icmp .ge 25, 3) := by decide +kernel
theorem dX1_groupInto_51 : decode cX1_groupInto 51 = .ok (.aload_n 0, 1) := by decide +kernel
theorem dX1_groupInto_52 : decode cX1_groupInto 52 = .ok (.getfield 15, 3) := by decide +kernel
theorem dX1_groupInto_55 : decode cX1_groupInto 55 = .ok (.iload 4, 2) := by decide +kernel
theorem dX1_groupInto_57 : decode cX1_groupInto 57 = .ok (.aload_n 0, 1) := by decide +kernel
theorem dX1_groupInto_58 : decode cX1_groupInto 58 = .ok (.getfield 9, 3) := by decide +kernel
theorem dX1_groupInto_61 : decode cX1_groupInto 61 = .ok (.iload 6, 2) := by decide +kernel
theorem dX1_groupInto_63 : decode cX1_groupInto 63 = .ok (.iaload, 1) := by decide +kernel
theorem dX1_groupInto_64 : decode cX1_groupInto 64 = .ok (.invokevirtual 106, 3) := by decide +kernel
theorem dX1_groupInto_67 : decode cX1_groupInto 67 = .ok (.iinc 6 1, 3) := by decide +kernel
theorem dX1_groupInto_70 : decode cX1_groupInto 70 = .ok (.goto (-26), 3) := by decide +kernel
theorem dX1_groupInto_73 : decode cX1_groupInto 73 = .ok (.aload_n 0, 1) := by decide +kernel
theorem dX1_groupInto_74 : decode cX1_groupInto 74 = .ok (.getfield 9, 3) := by decide +kernel
theorem dX1_groupInto_77 : decode cX1_groupInto 77 = .ok (.iload_n 3, 1) := by decide +kernel
theorem dX1_groupInto_78 : decode cX1_groupInto 78 = .ok (.iload 4, 2) := by decide +kernel
theorem dX1_groupInto_80 : decode cX1_groupInto 80 = .ok (.iastore, 1) := by decide +kernel
theorem dX1_groupInto_81 : decode cX1_groupInto 81 = .ok (.iinc 3 1, 3) := by decide +kernel
theorem dX1_groupInto_84 : decode cX1_groupInto 84 = .ok (.goto (-73), 3) := by decide +kernel
theorem dX1_groupInto_87 : decode cX1_groupInto 87 = .ok (.aload_n 0, 1) := by decide +kernel
theorem dX1_groupInto_88 : decode cX1_groupInto 88 = .ok (.iload_n 2, 1) := by decide +kernel
theorem dX1_groupInto_89 : decode cX1_groupInto 89 = .ok (.putfield 26, 3) := by decide +kernel
theorem dX1_groupInto_92 : decode cX1_groupInto 92 = .ok (.return_, 1) := by decide +kernel
theorem dX1_startOf_0 : decode cX1_startOf 0 = .ok (.iload_n 1, 1) := by decide +kernel
theorem dX1_startOf_1 : decode cX1_startOf 1 = .ok (.iload_n 2, 1) := by decide +kernel
theorem dX1_startOf_2 : decode cX1_startOf 2 = .ok (.if_icmp .ne 8, 3) := by decide +kernel
theorem dX1_startOf_5 : decode cX1_startOf 5 = .ok (.aload_n 0, 1) := by decide +kernel
theorem dX1_startOf_6 : decode cX1_startOf 6 = .ok (.getfield 26, 3) := by decide +kernel
theorem dX1_startOf_9 : decode cX1_startOf 9 = .ok (.ireturn, 1) := by decide +kernel
theorem dX1_startOf_10 : decode cX1_startOf 10 = .ok (.iload_n 1, 1) := by decide +kernel
theorem dX1_startOf_11 : decode cX1_startOf 11 = .ok (.aload_n 0, 1) := by decide +kernel
theorem dX1_startOf_12 : decode cX1_startOf 12 = .ok (.getfield 15, 3) := by decide +kernel
theorem dX1_startOf_15 : decode cX1_startOf 15 = .ok (.getfield 65, 3) := by decide +kernel
theorem dX1_startOf_18 : decode cX1_startOf 18 = .ok (.imul, 1) := by decide +kernel
theorem dX1_startOf_19 : decode cX1_startOf 19 = .ok (.istore_n 3, 1) := by decide +kernel
theorem dX1_startOf_20 : decode cX1_startOf 20 = .ok (.iload_n 1, 1) := by decide +kernel
theorem dX1_startOf_21 : decode cX1_startOf 21 = .ok (.ifCond .le 14, 3) := by decide +kernel
theorem dX1_startOf_24 : decode cX1_startOf 24 = .ok (.iload_n 1, 1) := by decide +kernel
theorem dX1_startOf_25 : decode cX1_startOf 25 = .ok (.iload_n 2, 1) := by decide +kernel
theorem dX1_startOf_26 : decode cX1_startOf 26 = .ok (.iconst 1, 1) := by decide +kernel
theorem dX1_startOf_27 : decode cX1_startOf 27 = .ok (.isub, 1) := by decide +kernel
theorem dX1_startOf_28 : decode cX1_startOf 28 = .ok (.if_icmp .ne 7, 3) := by decide +kernel
theorem dX1_startOf_31 : decode cX1_startOf 31 = .ok (.iconst 1, 1) := by decide +kernel
theorem dX1_startOf_32 : decode cX1_startOf 32 = .ok (.goto 4, 3) := by decide +kernel
theorem dX1_startOf_35 : decode cX1_startOf 35 = .ok (.iconst 0, 1) := by decide +kernel
theorem dX1_startOf_36 : decode cX1_startOf 36 = .ok (.istore 4, 2) := by decide +kernel
theorem dX1_startOf_38 : decode cX1_startOf 38 = .ok (.iload 4, 2) := by decide +kernel
theorem dX1_startOf_40 : decode cX1_startOf 40 = .ok (.ifCond .eq 22, 3) := by decide +kernel
theorem dX1_startOf_43 : decode cX1_startOf 43 = .ok (.iload_n 3, 1) := by decide +kernel
theorem dX1_startOf_44 : decode cX1_startOf 44 = .ok (.aload_n 0, 1) := by decide +kernel
theorem dX1_startOf_45 : decode cX1_startOf 45 = .ok (.getfield 26, 3) := by decide +kernel
theorem dX1_startOf_48 : decode cX1_startOf 48 = .ok (.aload_n 0, 1) := by decide +kernel
theorem dX1_startOf_49 : decode cX1_startOf 49 = .ok (.getfield 15, 3) := by decide +kernel
theorem dX1_startOf_52 : decode cX1_startOf 52 = .ok (.getfield 110, 3) := by decide +kernel
theorem dX1_startOf_55 : decode cX1_startOf 55 = .ok (.isub, 1) := by decide +kernel
theorem dX1_startOf_56 : decode cX1_startOf 56 = .ok (.invokestatic 68, 3) := by decide +kernel
theorem dX1_startOf_59 : decode cX1_startOf 59 = .ok (.goto 4, 3) := by decide +kernel
theorem dX1_startOf_62 : decode cX1_startOf 62 = .ok (.iload_n 3, 1) := by decide +kernel
theorem dX1_startOf_63 : decode cX1_startOf 63 = .ok (.ireturn, 1) := by decide +kernel
theorem dX2_init_0 : decode cX2_init 0 = .ok (.aload_n 0, 1) := by decide +kernel
theorem dX2_init_1 : decode cX2_init 1 = .ok (.invokespecial 3, 3) := by decide +kernel
theorem dX2_init_4 : decode cX2_init 4 = .ok (.aload_n 0, 1) := by decide +kernel
theorem dX2_init_5 : decode cX2_init 5 = .ok (.sipush 807, 3) := by decide +kernel
theorem dX2_init_8 : decode cX2_init 8 = .ok (.newarray .int, 2) := by decide +kernel
theorem dX2_init_10 : decode cX2_init 10 = .ok (.putfield 9, 3) := by decide +kernel
theorem dX2_init_13 : decode cX2_init 13 = .ok (.aload_n 0, 1) := by decide +kernel
theorem dX2_init_14 : decode cX2_init 14 = .ok (.sipush 807, 3) := by decide +kernel
theorem dX2_init_17 : decode cX2_init 17 = .ok (.newarray .int, 2) := by decide +kernel
theorem dX2_init_19 : decode cX2_init 19 = .ok (.putfield 15, 3) := by decide +kernel
theorem dX2_init_22 : decode cX2_init 22 = .ok (.aload_n 0, 1) := by decide +kernel
theorem dX2_init_23 : decode cX2_init 23 = .ok (.iconst (-1), 1) := by decide +kernel
theorem dX2_init_24 : decode cX2_init 24 = .ok (.putfield 18, 3) := by decide +kernel
theorem dX2_init_27 : decode cX2_init 27 = .ok (.aload_n 0, 1) := by decide +kernel
theorem dX2_init_28 : decode cX2_init 28 = .ok (.aload_n 1, 1) := by decide +kernel
theorem dX2_init_29 : decode cX2_init 29 = .ok (.putfield 22, 3) := by decide +kernel
theorem dX2_init_32 : decode cX2_init 32 = .ok (.aload_n 0, 1) := by decide +kernel
theorem dX2_init_33 : decode cX2_init 33 = .ok (.aload_n 2, 1) := by decide +kernel
theorem dX2_init_34 : decode cX2_init 34 = .ok (.putfield 26, 3) := by decide +kernel
theorem dX2_init_37 : decode cX2_init 37 = .ok (.return_, 1) := by decide +kernel
theorem dX2_find_0 : decode cX2_find 0 = .ok (.aload_n 0, 1) := by decide +kernel
theorem dX2_find_1 : decode cX2_find 1 = .ok (.iconst 0, 1) := by decide +kernel
theorem dX2_find_2 : decode cX2_find 2 = .ok (.putfield 30, 3) := by decide +kernel
theorem dX2_find_5 : decode cX2_find 5 = .ok (.aload_n 0, 1) := by decide +kernel
theorem dX2_find_6 : decode cX2_find 6 = .ok (.iconst 0, 1) := by decide +kernel
theorem dX2_find_7 : decode cX2_find 7 = .ok (.putfield 33, 3) := by decide +kernel
theorem dX2_find_10 : decode cX2_find 10 = .ok (.aload_n 0, 1) := by decide +kernel
theorem dX2_find_11 : decode cX2_find 11 = .ok (.aload_n 0, 1) := by decide +kernel
theorem dX2_find_12 : decode cX2_find 12 = .ok (.getfield 26, 3) := by decide +kernel
theorem dX2_find_15 : decode cX2_find 15 = .ok (.getfield 36, 3) := by decide +kernel
theorem dX2_find_18 : decode cX2_find 18 = .ok (.iload_n 1, 1) := by decide +kernel
theorem dX2_find_19 : decode cX2_find 19 = .ok (.iload_n 2, 1) := by decide +kernel
theorem dX2_find_20 : decode cX2_find 20 = .ok (.invokevirtual 41, 3) := by decide +kernel
theorem dX2_find_23 : decode cX2_find 23 = .ok (.iconst 0, 1) := by decide +kernel
theorem dX2_find_24 : decode cX2_find 24 = .ok (.istore 4, 2) := by decide +kernel
theorem dX2_find_26 : decode cX2_find 26 = .ok (.iconst 0, 1) := by decide +kernel
theorem dX2_find_27 : decode cX2_find 27 = .ok (.istore 5, 2) := by decide +kernel
theorem dX2_find_29 : decode cX2_find 29 = .ok (.iload 5, 2) := by decide +kernel
theorem dX2_find_31 : decode cX2_find 31 = .ok (.sipush 807, 3) := by decide +kernel
theorem dX2_find_34 : decode cX2_find 34 = .ok (.if_icmp .ge 71, 3) := by decide +kernel
theorem dX2_find_37 : decode cX2_find 37 = .ok (.aload_n 0, 1) := by decide +kernel
theorem dX2_find_38 : decode cX2_find 38 = .ok (.getfield 33, 3) := by decide +kernel
theorem dX2_find_41 : decode cX2_find 41 = .ok (.ifCond .le 64, 3) := by decide +kernel
theorem dX2_find_44 : decode cX2_find 44 = .ok (.aload_n 0, 1) := by decide +kernel
theorem dX2_find_45 : decode cX2_find 45 = .ok (.invokevirtual 45, 3) := by decide +kernel
theorem dX2_find_48 : decode cX2_find 48 = .ok (.istore 6, 2) := by decide +kernel
theorem dX2_find_50 : decode cX2_find 50 = .ok (.aload_n 0, 1) := by decide +kernel
theorem dX2_find_51 : decode cX2_find 51 = .ok (.getfield 22, 3) := by decide +kernel
theorem dX2_find_54 : decode cX2_find 54 = .ok (.iload 6, 2) := by decide +kernel
theorem dX2_find_56 : decode cX2_find 56 = .ok (.invokevirtual 49, 3) := by decide +kernel
theorem dX2_find_59 : decode cX2_find 59 = .ok (.ifCond .ne 14, 3) := by decide +kernel
theorem dX2_find_62 : decode cX2_find 62 = .ok (.aload_n 0, 1) := by decide +kernel
theorem dX2_find_63 : decode cX2_find 63 = .ok (.iload 6, 2) := by decide +kernel
theorem dX2_find_65 : decode cX2_find 65 = .ok (.iload_n 1, 1) := by decide +kernel
theorem dX2_find_66 : decode cX2_find 66 = .ok (.iload_n 2, 1) := by decide +kernel
theorem dX2_find_67 : decode cX2_find 67 = .ok (.invokevirtual 55, 3) := by decide +kernel
theorem dX2_find_70 : decode cX2_find 70 = .ok (.goto 29, 3) := by decide +kernel
theorem dX2_find_73 : decode cX2_find 73 = .ok (.iload 4, 2) := by decide +kernel
theorem dX2_find_75 : decode cX2_find 75 = .ok (.iload_n 3, 1) := by decide +kernel
theorem dX2_find_76 : decode cX2_find 76 = .ok (.if_icmp .ge 9, 3) := by decide +kernel
theorem dX2_find_79 : decode cX2_find 79 = .ok (.iinc 4 1, 3) := by decide +kernel
theorem dX2_find_82 : decode cX2_find 82 = .ok (.goto 17, 3) := by decide +kernel
theorem dX2_find_85 : decode cX2_find 85 = .ok (.aload_n 0, 1) := by decide +kernel
theorem dX2_find_86 : decode cX2_find 86 = .ok (.aload_n 0, 1) := by decide +kernel
theorem dX2_find_87 : decode cX2_find 87 = .ok (.getfield 15, 3) := by decide +kernel
theorem dX2_find_90 : decode cX2_find 90 = .ok (.iload 6, 2) := by decide +kernel
theorem dX2_find_92 : decode cX2_find 92 = .ok (.iaload, 1) := by decide +kernel
theorem dX2_find_93 : decode cX2_find 93 = .ok (.putfield 18, 3) := by decide +kernel
theorem dX2_find_96 : decode cX2_find 96 = .ok (.iload 6, 2) := by decide +kernel
theorem dX2_find_98 : decode cX2_find 98 = .ok (.ireturn, 1) := by decide +kernel
theorem dX2_find_99 : decode cX2_find 99 = .ok (.iinc 5 1, 3) := by decide +kernel
theorem dX2_find_102 : decode cX2_find 102 = .ok (.goto (-73), 3) := by decide +kernel
theorem dX2_find_105 : decode cX2_find 105 = .ok (.iconst (-1), 1) := by decide +kernel
theorem dX2_find_106 : decode cX2_find 106 = .ok (.ireturn, 1) := by decide +kernel
theorem dX2_read_0 : decode cX2_read 0 = .ok (.aload_n 0, 1) := by decide +kernel
theorem dX2_read_1 : decode cX2_read 1 = .ok (.dup, 1) := by decide +kernel
theorem dX2_read_2 : decode cX2_read 2 = .ok (.getfield 30, 3) := by decide +kernel
theorem dX2_read_5 : decode cX2_read 5 = .ok (.iconst 1, 1) := by decide +kernel
theorem dX2_read_6 : decode cX2_read 6 = .ok (.iadd, 1) := by decide +kernel
theorem dX2_read_7 : decode cX2_read 7 = .ok (.putfield 30, 3) := by decide +kernel
theorem dX2_read_10 : decode cX2_read 10 = .ok (.iconst 0, 1) := by decide +kernel
theorem dX2_read_11 : decode cX2_read 11 = .ok (.istore 4, 2) := by decide +kernel
theorem dX2_read_13 : decode cX2_read 13 = .ok (.iload 4, 2) := by decide +kernel
theorem dX2_read_15 : decode cX2_read 15 = .ok (.aload_n 0, 1) := by decide +kernel
theorem dX2_read_16 : decode cX2_read 16 = .ok (.getfield 22, 3) := by decide +kernel
theorem dX2_read_19 : decode cX2_read 19 = .ok (.getfield 58, 3) := by decide +kernel
theorem dX2_read_22 : decode cX2_read 22 = .ok (.iload_n 1, 1) := by decide +kernel
theorem dX2_read_23 : decode cX2_read 23 = .ok (.iaload, 1) := by decide +kernel
theorem dX2_read_24 : decode cX2_read 24 = .ok (.if_icmp .ge 25, 3) := by decide +kernel
theorem dX2_read_27 : decode cX2_read 27 = .ok (.aload_n 0, 1) := by decide +kernel
theorem dX2_read_28 : decode cX2_read 28 = .ok (.aload_n 0, 1) := by decide +kernel
theorem dX2_read_29 : decode cX2_read 29 = .ok (.getfield 22, 3) := by decide +kernel
theorem dX2_read_32 : decode cX2_read 32 = .ok (.iload_n 1, 1) := by decide +kernel
theorem dX2_read_33 : decode cX2_read 33 = .ok (.iload 4, 2) := by decide +kernel
theorem dX2_read_35 : decode cX2_read 35 = .ok (.invokevirtual 61, 3) := by decide +kernel
theorem dX2_read_38 : decode cX2_read 38 = .ok (.iload_n 2, 1) := by decide +kernel
theorem dX2_read_39 : decode cX2_read 39 = .ok (.iload_n 3, 1) := by decide +kernel
theorem dX2_read_40 : decode cX2_read 40 = .ok (.invokevirtual 41, 3) := by decide +kernel
theorem dX2_read_43 : decode cX2_read 43 = .ok (.iinc 4 1, 3) := by decide +kernel
theorem dX2_read_46 : decode cX2_read 46 = .ok (.goto (-33), 3) := by decide +kernel
theorem dX2_read_49 : decode cX2_read 49 = .ok (.return_, 1) := by decide +kernel
theorem dX2_push_0 : decode cX2_push 0 = .ok (.aload_n 0, 1) := by decide +kernel
theorem dX2_push_1 : decode cX2_push 1 = .ok (.getfield 33, 3) := by decide +kernel
theorem dX2_push_4 : decode cX2_push 4 = .ok (.aload_n 0, 1) := by decide +kernel
theorem dX2_push_5 : decode cX2_push 5 = .ok (.getfield 9, 3) := by decide +kernel
theorem dX2_push_8 : decode cX2_push 8 = .ok (.arraylength, 1) := by decide +kernel
theorem dX2_push_9 : decode cX2_push 9 = .ok (.if_icmp .lt 4, 3) := by decide +kernel
theorem dX2_push_12 : decode cX2_push 12 = .ok (.return_, 1) := by decide +kernel
theorem dX2_push_13 : decode cX2_push 13 = .ok (.aload_n 0, 1) := by decide +kernel
theorem dX2_push_14 : decode cX2_push 14 = .ok (.getfield 15, 3) := by decide +kernel
theorem dX2_push_17 : decode cX2_push 17 = .ok (.iload_n 1, 1) := by decide +kernel
theorem dX2_push_18 : decode cX2_push 18 = .ok (.aload_n 0, 1) := by decide +kernel
theorem dX2_push_19 : decode cX2_push 19 = .ok (.getfield 22, 3) := by decide +kernel
theorem dX2_push_22 : decode cX2_push 22 = .ok (.iload_n 1, 1) := by decide +kernel
theorem dX2_push_23 : decode cX2_push 23 = .ok (.iload_n 2, 1) := by decide +kernel
theorem dX2_push_24 : decode cX2_push 24 = .ok (.iload_n 3, 1) := by decide +kernel
theorem dX2_push_25 : decode cX2_push 25 = .ok (.invokevirtual 65, 3) := by decide +kernel
theorem dX2_push_28 : decode cX2_push 28 = .ok (.iastore, 1) := by decide +kernel
theorem dX2_push_29 : decode cX2_push 29 = .ok (.aload_n 0, 1) := by decide +kernel
theorem dX2_push_30 : decode cX2_push 30 = .ok (.dup, 1) := by decide +kernel
theorem dX2_push_31 : decode cX2_push 31 = .ok (.getfield 33, 3) := by decide +kernel
theorem dX2_push_34 : decode cX2_push 34 = .ok (.dup_x1, 1) := by decide +kernel
theorem dX2_push_35 : decode cX2_push 35 = .ok (.iconst 1, 1) := by decide +kernel
theorem dX2_push_36 : decode cX2_push 36 = .ok (.iadd, 1) := by decide +kernel
theorem dX2_push_37 : decode cX2_push 37 = .ok (.putfield 33, 3) := by decide +kernel
theorem dX2_push_40 : decode cX2_push 40 = .ok (.istore 4, 2) := by decide +kernel
theorem dX2_push_42 : decode cX2_push 42 = .ok (.iload 4, 2) := by decide +kernel
theorem dX2_push_44 : decode cX2_push 44 = .ok (.ifCond .le 51, 3) := by decide +kernel
theorem dX2_push_47 : decode cX2_push 47 = .ok (.aload_n 0, 1) := by decide +kernel
theorem dX2_push_48 : decode cX2_push 48 = .ok (.iload_n 1, 1) := by decide +kernel
theorem dX2_push_49 : decode cX2_push 49 = .ok (.aload_n 0, 1) := by decide +kernel
theorem dX2_push_50 : decode cX2_push 50 = .ok (.getfield 9, 3) := by decide +kernel
theorem dX2_push_53 : decode cX2_push 53 = .ok (.iload 4, 2) := by decide +kernel
theorem dX2_push_55 : decode cX2_push 55 = .ok (.iconst 1, 1) := by decide +kernel
theorem dX2_push_56 : decode cX2_push 56 = .ok (.isub, 1) := by decide +kernel
theorem dX2_push_57 : decode cX2_push 57 = .ok (.iconst 2, 1) := by decide +kernel
theorem dX2_push_58 : decode cX2_push 58 = .ok (.idiv, 1) := by decide +kernel
theorem dX2_push_59 : decode cX2_push 59 = .ok (.iaload, 1) := by decide +kernel
theorem dX2_push_60 : decode cX2_push 60 = .ok (.invokevirtual 69, 3) := by decide +kernel
theorem dX2_push_63 : decode cX2_push 63 = .ok (.ifCond .eq 32, 3) := by decide +kernel
theorem dX2_push_66 : decode cX2_push 66 = .ok (.aload_n 0, 1) := by decide +kernel
theorem dX2_push_67 : decode cX2_push 67 = .ok (.getfield 9, 3) := by decide +kernel
theorem dX2_push_70 : decode cX2_push 70 = .ok (.iload 4, 2) := by decide +kernel
theorem dX2_push_72 : decode cX2_push 72 = .ok (.aload_n 0, 1) := by decide +kernel
theorem dX2_push_73 : decode cX2_push 73 = .ok (.getfield 9, 3) := by decide +kernel
theorem dX2_push_76 : decode cX2_push 76 = .ok (.iload 4, 2) := by decide +kernel
theorem dX2_push_78 : decode cX2_push 78 = .ok (.iconst 1, 1) := by decide +kernel
theorem dX2_push_79 : decode cX2_push 79 = .ok (.isub, 1) := by decide +kernel
theorem dX2_push_80 : decode cX2_push 80 = .ok (.iconst 2, 1) := by decide +kernel
theorem dX2_push_81 : decode cX2_push 81 = .ok (.idiv, 1) := by decide +kernel
theorem dX2_push_82 : decode cX2_push 82 = .ok (.iaload, 1) := by decide +kernel
theorem dX2_push_83 : decode cX2_push 83 = .ok (.iastore, 1) := by decide +kernel
theorem dX2_push_84 : decode cX2_push 84 = .ok (.iload 4, 2) := by decide +kernel
theorem dX2_push_86 : decode cX2_push 86 = .ok (.iconst 1, 1) := by decide +kernel
theorem dX2_push_87 : decode cX2_push 87 = .ok (.isub, 1) := by decide +kernel
theorem dX2_push_88 : decode cX2_push 88 = .ok (.iconst 2, 1) := by decide +kernel
theorem dX2_push_89 : decode cX2_push 89 = .ok (.idiv, 1) := by decide +kernel
theorem dX2_push_90 : decode cX2_push 90 = .ok (.istore 4, 2) := by decide +kernel
theorem dX2_push_92 : decode cX2_push 92 = .ok (.goto (-50), 3) := by decide +kernel
theorem dX2_push_95 : decode cX2_push 95 = .ok (.aload_n 0, 1) := by decide +kernel
theorem dX2_push_96 : decode cX2_push 96 = .ok (.getfield 9, 3) := by decide +kernel
theorem dX2_push_99 : decode cX2_push 99 = .ok (.iload 4, 2) := by decide +kernel
theorem dX2_push_101 : decode cX2_push 101 = .ok (.iload_n 1, 1) := by decide +kernel
theorem dX2_push_102 : decode cX2_push 102 = .ok (.iastore, 1) := by decide +kernel
theorem dX2_push_103 : decode cX2_push 103 = .ok (.return_, 1) := by decide +kernel
theorem dX2_pop_0 : decode cX2_pop 0 = .ok (.aload_n 0, 1) := by decide +kernel
theorem dX2_pop_1 : decode cX2_pop 1 = .ok (.getfield 9, 3) := by decide +kernel
theorem dX2_pop_4 : decode cX2_pop 4 = .ok (.iconst 0, 1) := by decide +kernel
theorem dX2_pop_5 : decode cX2_pop 5 = .ok (.iaload, 1) := by decide +kernel
theorem dX2_pop_6 : decode cX2_pop 6 = .ok (.istore_n 1, 1) := by decide +kernel
theorem dX2_pop_7 : decode cX2_pop 7 = .ok (.aload_n 0, 1) := by decide +kernel
theorem dX2_pop_8 : decode cX2_pop 8 = .ok (.dup, 1) := by decide +kernel
theorem dX2_pop_9 : decode cX2_pop 9 = .ok (.getfield 33, 3) := by decide +kernel
theorem dX2_pop_12 : decode cX2_pop 12 = .ok (.iconst 1, 1) := by decide +kernel
theorem dX2_pop_13 : decode cX2_pop 13 = .ok (.isub, 1) := by decide +kernel
theorem dX2_pop_14 : decode cX2_pop 14 = .ok (.putfield 33, 3) := by decide +kernel
theorem dX2_pop_17 : decode cX2_pop 17 = .ok (.aload_n 0, 1) := by decide +kernel
theorem dX2_pop_18 : decode cX2_pop 18 = .ok (.getfield 9, 3) := by decide +kernel
theorem dX2_pop_21 : decode cX2_pop 21 = .ok (.aload_n 0, 1) := by decide +kernel
theorem dX2_pop_22 : decode cX2_pop 22 = .ok (.getfield 33, 3) := by decide +kernel
theorem dX2_pop_25 : decode cX2_pop 25 = .ok (.iaload, 1) := by decide +kernel
theorem dX2_pop_26 : decode cX2_pop 26 = .ok (.istore_n 2, 1) := by decide +kernel
theorem dX2_pop_27 : decode cX2_pop 27 = .ok (.iconst 0, 1) := by decide +kernel
theorem dX2_pop_28 : decode cX2_pop 28 = .ok (.istore_n 3, 1) := by decide +kernel
theorem dX2_pop_29 : decode cX2_pop 29 = .ok (.aload_n 0, 1) := by decide +kernel
theorem dX2_pop_30 : decode cX2_pop 30 = .ok (.iload_n 3, 1) := by decide +kernel
theorem dX2_pop_31 : decode cX2_pop 31 = .ok (.invokevirtual 73, 3) := by decide +kernel
theorem dX2_pop_34 : decode cX2_pop 34 = .ok (.istore 4, 2) := by decide +kernel
theorem dX2_pop_36 : decode cX2_pop 36 = .ok (.iload 4, 2) := by decide +kernel
theorem dX2_pop_38 : decode cX2_pop 38 = .ok (.aload_n 0, 1) := by decide +kernel
theorem dX2_pop_39 : decode cX2_pop 39 = .ok (.getfield 33, 3) := by decide +kernel
theorem dX2_pop_42 : decode cX2_pop 42 = .ok (.if_icmp .ge 44, 3) := by decide +kernel
theorem dX2_pop_45 : decode cX2_pop 45 = .ok (.aload_n 0, 1) := by decide +kernel
theorem dX2_pop_46 : decode cX2_pop 46 = .ok (.aload_n 0, 1) := by decide +kernel
theorem dX2_pop_47 : decode cX2_pop 47 = .ok (.getfield 9, 3) := by decide +kernel
theorem dX2_pop_50 : decode cX2_pop 50 = .ok (.iload 4, 2) := by decide +kernel
theorem dX2_pop_52 : decode cX2_pop 52 = .ok (.iaload, 1) := by decide +kernel
theorem dX2_pop_53 : decode cX2_pop 53 = .ok (.iload_n 2, 1) := by decide +kernel
theorem dX2_pop_54 : decode cX2_pop 54 = .ok (.invokevirtual 69, 3) := by decide +kernel
theorem dX2_pop_57 : decode cX2_pop 57 = .ok (.ifCond .eq 29, 3) := by decide +kernel
theorem dX2_pop_60 : decode cX2_pop 60 = .ok (.aload_n 0, 1) := by decide +kernel
theorem dX2_pop_61 : decode cX2_pop 61 = .ok (.getfield 9, 3) := by decide +kernel
theorem dX2_pop_64 : decode cX2_pop 64 = .ok (.iload_n 3, 1) := by decide +kernel
theorem dX2_pop_65 : decode cX2_pop 65 = .ok (.aload_n 0, 1) := by decide +kernel
theorem dX2_pop_66 : decode cX2_pop 66 = .ok (.getfield 9, 3) := by decide +kernel
theorem dX2_pop_69 : decode cX2_pop 69 = .ok (.iload 4, 2) := by decide +kernel
theorem dX2_pop_71 : decode cX2_pop 71 = .ok (.iaload, 1) := by decide +kernel
theorem dX2_pop_72 : decode cX2_pop 72 = .ok (.iastore, 1) := by decide +kernel
theorem dX2_pop_73 : decode cX2_pop 73 = .ok (.iload 4, 2) := by decide +kernel
theorem dX2_pop_75 : decode cX2_pop 75 = .ok (.istore_n 3, 1) := by decide +kernel
theorem dX2_pop_76 : decode cX2_pop 76 = .ok (.aload_n 0, 1) := by decide +kernel
theorem dX2_pop_77 : decode cX2_pop 77 = .ok (.iload_n 3, 1) := by decide +kernel
theorem dX2_pop_78 : decode cX2_pop 78 = .ok (.invokevirtual 73, 3) := by decide +kernel
theorem dX2_pop_81 : decode cX2_pop 81 = .ok (.istore 4, 2) := by decide +kernel
theorem dX2_pop_83 : decode cX2_pop 83 = .ok (.goto (-47), 3) := by decide +kernel
theorem dX2_pop_86 : decode cX2_pop 86 = .ok (.aload_n 0, 1) := by decide +kernel
theorem dX2_pop_87 : decode cX2_pop 87 = .ok (.getfield 9, 3) := by decide +kernel
theorem dX2_pop_90 : decode cX2_pop 90 = .ok (.iload_n 3, 1) := by decide +kernel
theorem dX2_pop_91 : decode cX2_pop 91 = .ok (.iload_n 2, 1) := by decide +kernel
theorem dX2_pop_92 : decode cX2_pop 92 = .ok (.iastore, 1) := by decide +kernel
theorem dX2_pop_93 : decode cX2_pop 93 = .ok (.iload_n 1, 1) := by decide +kernel
theorem dX2_pop_94 : decode cX2_pop 94 = .ok (.ireturn, 1) := by decide +kernel
theorem dX2_lesserBelow_0 : decode cX2_lesserBelow 0 = .ok (.iconst 2, 1) := by decide +kernel
theorem dX2_lesserBelow_1 : decode cX2_lesserBelow 1 = .ok (.iload_n 1, 1) := by decide +kernel
theorem dX2_lesserBelow_2 : decode cX2_lesserBelow 2 = .ok (.imul, 1) := by decide +kernel
theorem dX2_lesserBelow_3 : decode cX2_lesserBelow 3 = .ok (.iconst 1, 1) := by decide +kernel
theorem dX2_lesserBelow_4 : decode cX2_lesserBelow 4 = .ok (.iadd, 1) := by decide +kernel
theorem dX2_lesserBelow_5 : decode cX2_lesserBelow 5 = .ok (.istore_n 2, 1) := by decide +kernel
theorem dX2_lesserBelow_6 : decode cX2_lesserBelow 6 = .ok (.iload_n 2, 1) := by decide +kernel
theorem dX2_lesserBelow_7 : decode cX2_lesserBelow 7 = .ok (.iconst 1, 1) := by decide +kernel
theorem dX2_lesserBelow_8 : decode cX2_lesserBelow 8 = .ok (.iadd, 1) := by decide +kernel
theorem dX2_lesserBelow_9 : decode cX2_lesserBelow 9 = .ok (.aload_n 0, 1) := by decide +kernel
theorem dX2_lesserBelow_10 : decode cX2_lesserBelow 10 = .ok (.getfield 33, 3) := by decide +kernel
theorem dX2_lesserBelow_13 : decode cX2_lesserBelow 13 = .ok (.if_icmp .ge 28, 3) := by decide +kernel
theorem dX2_lesserBelow_16 : decode cX2_lesserBelow 16 = .ok (.aload_n 0, 1) := by decide +kernel
theorem dX2_lesserBelow_17 : decode cX2_lesserBelow 17 = .ok (.aload_n 0, 1) := by decide +kernel
theorem dX2_lesserBelow_18 : decode cX2_lesserBelow 18 = .ok (.getfield 9, 3) := by decide +kernel
theorem dX2_lesserBelow_21 : decode cX2_lesserBelow 21 = .ok (.iload_n 2, 1) := by decide +kernel
theorem dX2_lesserBelow_22 : decode cX2_lesserBelow 22 = .ok (.iconst 1, 1) := by decide +kernel
theorem dX2_lesserBelow_23 : decode cX2_lesserBelow 23 = .ok (.iadd, 1) := by decide +kernel
theorem dX2_lesserBelow_24 : decode cX2_lesserBelow 24 = .ok (.iaload, 1) := by decide +kernel
theorem dX2_lesserBelow_25 : decode cX2_lesserBelow 25 = .ok (.aload_n 0, 1) := by decide +kernel
theorem dX2_lesserBelow_26 : decode cX2_lesserBelow 26 = .ok (.getfield 9, 3) := by decide +kernel
theorem dX2_lesserBelow_29 : decode cX2_lesserBelow 29 = .ok (.iload_n 2, 1) := by decide +kernel
theorem dX2_lesserBelow_30 : decode cX2_lesserBelow 30 = .ok (.iaload, 1) := by decide +kernel
theorem dX2_lesserBelow_31 : decode cX2_lesserBelow 31 = .ok (.invokevirtual 69, 3) := by decide +kernel
theorem dX2_lesserBelow_34 : decode cX2_lesserBelow 34 = .ok (.ifCond .eq 7, 3) := by decide +kernel
theorem dX2_lesserBelow_37 : decode cX2_lesserBelow 37 = .ok (.iload_n 2, 1) := by decide +kernel
theorem dX2_lesserBelow_38 : decode cX2_lesserBelow 38 = .ok (.iconst 1, 1) := by decide +kernel
theorem dX2_lesserBelow_39 : decode cX2_lesserBelow 39 = .ok (.iadd, 1) := by decide +kernel
theorem dX2_lesserBelow_40 : decode cX2_lesserBelow 40 = .ok (.ireturn, 1) := by decide +kernel
theorem dX2_lesserBelow_41 : decode cX2_lesserBelow 41 = .ok (.iload_n 2, 1) := by decide +kernel
theorem dX2_lesserBelow_42 : decode cX2_lesserBelow 42 = .ok (.ireturn, 1) := by decide +kernel
theorem dX2_isBefore_0 : decode cX2_isBefore 0 = .ok (.aload_n 0, 1) := by decide +kernel
theorem dX2_isBefore_1 : decode cX2_isBefore 1 = .ok (.getfield 15, 3) := by decide +kernel
theorem dX2_isBefore_4 : decode cX2_isBefore 4 = .ok (.iload_n 1, 1) := by decide +kernel
theorem dX2_isBefore_5 : decode cX2_isBefore 5 = .ok (.iaload, 1) := by decide +kernel
theorem dX2_isBefore_6 : decode cX2_isBefore 6 = .ok (.aload_n 0, 1) := by decide +kernel
theorem dX2_isBefore_7 : decode cX2_isBefore 7 = .ok (.getfield 15, 3) := by decide +kernel
theorem dX2_isBefore_10 : decode cX2_isBefore 10 = .ok (.iload_n 2, 1) := by decide +kernel
theorem dX2_isBefore_11 : decode cX2_isBefore 11 = .ok (.iaload, 1) := by decide +kernel
theorem dX2_isBefore_12 : decode cX2_isBefore 12 = .ok (.if_icmp .eq 24, 3) := by decide +kernel
theorem dX2_isBefore_15 : decode cX2_isBefore 15 = .ok (.aload_n 0, 1) := by decide +kernel
theorem dX2_isBefore_16 : decode cX2_isBefore 16 = .ok (.getfield 15, 3) := by decide +kernel
theorem dX2_isBefore_19 : decode cX2_isBefore 19 = .ok (.iload_n 1, 1) := by decide +kernel
theorem dX2_isBefore_20 : decode cX2_isBefore 20 = .ok (.iaload, 1) := by decide +kernel
theorem dX2_isBefore_21 : decode cX2_isBefore 21 = .ok (.aload_n 0, 1) := by decide +kernel
theorem dX2_isBefore_22 : decode cX2_isBefore 22 = .ok (.getfield 15, 3) := by decide +kernel
theorem dX2_isBefore_25 : decode cX2_isBefore 25 = .ok (.iload_n 2, 1) := by decide +kernel
theorem dX2_isBefore_26 : decode cX2_isBefore 26 = .ok (.iaload, 1) := by decide +kernel
theorem dX2_isBefore_27 : decode cX2_isBefore 27 = .ok (.if_icmp .ge 7, 3) := by decide +kernel
theorem dX2_isBefore_30 : decode cX2_isBefore 30 = .ok (.iconst 1, 1) := by decide +kernel
theorem dX2_isBefore_31 : decode cX2_isBefore 31 = .ok (.goto 4, 3) := by decide +kernel
theorem dX2_isBefore_34 : decode cX2_isBefore 34 = .ok (.iconst 0, 1) := by decide +kernel
theorem dX2_isBefore_35 : decode cX2_isBefore 35 = .ok (.ireturn, 1) := by decide +kernel
theorem dX2_isBefore_36 : decode cX2_isBefore 36 = .ok (.aload_n 0, 1) := by decide +kernel
theorem dX2_isBefore_37 : decode cX2_isBefore 37 = .ok (.getfield 22, 3) := by decide +kernel
theorem dX2_isBefore_40 : decode cX2_isBefore 40 = .ok (.iload_n 1, 1) := by decide +kernel
theorem dX2_isBefore_41 : decode cX2_isBefore 41 = .ok (.invokevirtual 49, 3) := by decide +kernel
theorem dX2_isBefore_44 : decode cX2_isBefore 44 = .ok (.aload_n 0, 1) := by decide +kernel
theorem dX2_isBefore_45 : decode cX2_isBefore 45 = .ok (.getfield 22, 3) := by decide +kernel
theorem dX2_isBefore_48 : decode cX2_isBefore 48 = .ok (.iload_n 2, 1) := by decide +kernel
theorem dX2_isBefore_49 : decode cX2_isBefore 49 = .ok (.invokevirtual 49, 3) := by decide +kernel
theorem dX2_isBefore_52 : decode cX2_isBefore 52 = .ok (.if_icmp .eq 12, 3) := by decide +kernel
theorem dX2_isBefore_55 : decode cX2_isBefore 55 = .ok (.aload_n 0, 1) := by decide +kernel
theorem dX2_isBefore_56 : decode cX2_isBefore 56 = .ok (.getfield 22, 3) := by decide +kernel
theorem dX2_isBefore_59 : decode cX2_isBefore 59 = .ok (.iload_n 1, 1) := by decide +kernel
theorem dX2_isBefore_60 : decode cX2_isBefore 60 = .ok (.invokevirtual 49, 3) := by decide +kernel
theorem dX2_isBefore_63 : decode cX2_isBefore 63 = .ok (.ireturn, 1) := by decide +kernel
theorem dX2_isBefore_64 : decode cX2_isBefore 64 = .ok (.aload_n 0, 1) := by decide +kernel
theorem dX2_isBefore_65 : decode cX2_isBefore 65 = .ok (.getfield 22, 3) := by decide +kernel
theorem dX2_isBefore_68 : decode cX2_isBefore 68 = .ok (.iload_n 1, 1) := by decide +kernel
theorem dX2_isBefore_69 : decode cX2_isBefore 69 = .ok (.iload_n 2, 1) := by decide +kernel
theorem dX2_isBefore_70 : decode cX2_isBefore 70 = .ok (.invokevirtual 77, 3) := by decide +kernel
theorem dX2_isBefore_73 : decode cX2_isBefore 73 = .ok (.ifCond .ge 7, 3) := by decide +kernel
theorem dX2_isBefore_76 : decode cX2_isBefore 76 = .ok (.iconst 1, 1) := by decide +kernel
theorem dX2_isBefore_77 : decode cX2_isBefore 77 = .ok (.goto 4, 3) := by decide +kernel
theorem dX2_isBefore_80 : decode cX2_isBefore 80 = .ok (.iconst 0, 1) := by decide +kernel
theorem dX2_isBefore_81 : decode cX2_isBefore 81 = .ok (.ireturn, 1) := by decide +kernel
theorem dX3_init_0 : decode cX3_init 0 = .ok (.aload_n 0, 1) := by decide +kernel
theorem dX3_init_1 : decode cX3_init 1 = .ok (.invokespecial 3, 3) := by decide +kernel
theorem dX3_init_4 : decode cX3_init 4 = .ok (.aload_n 0, 1) := by decide +kernel
theorem dX3_init_5 : decode cX3_init 5 = .ok (.aload_n 1, 1) := by decide +kernel
theorem dX3_init_6 : decode cX3_init 6 = .ok (.putfield 9, 3) := by decide +kernel
theorem dX3_init_9 : decode cX3_init 9 = .ok (.aload_n 0, 1) := by decide +kernel
theorem dX3_init_10 : decode cX3_init 10 = .ok (.aload_n 1, 1) := by decide +kernel
theorem dX3_init_11 : decode cX3_init 11 = .ok (.getfield 15, 3) := by decide +kernel
theorem dX3_init_14 : decode cX3_init 14 = .ok (.newarray .int, 2) := by decide +kernel
theorem dX3_init_16 : decode cX3_init 16 = .ok (.putfield 21, 3) := by decide +kernel
theorem dX3_init_19 : decode cX3_init 19 = .ok (.return_, 1) := by decide +kernel
theorem dX3_share_0 : decode cX3_share 0 = .ok (.aload_n 0, 1) := by decide +kernel
theorem dX3_share_1 : decode cX3_share 1 = .ok (.iload_n 1, 1) := by decide +kernel
theorem dX3_share_2 : decode cX3_share 2 = .ok (.invokevirtual 25, 3) := by decide +kernel
theorem dX3_share_5 : decode cX3_share 5 = .ok (.aload_n 0, 1) := by decide +kernel
theorem dX3_share_6 : decode cX3_share 6 = .ok (.invokevirtual 29, 3) := by decide +kernel
theorem dX3_share_9 : decode cX3_share 9 = .ok (.aload_n 0, 1) := by decide +kernel
theorem dX3_share_10 : decode cX3_share 10 = .ok (.aload_n 0, 1) := by decide +kernel
theorem dX3_share_11 : decode cX3_share 11 = .ok (.getfield 32, 3) := by decide +kernel
theorem dX3_share_14 : decode cX3_share 14 = .ok (.invokevirtual 35, 3) := by decide +kernel
theorem dX3_share_17 : decode cX3_share 17 = .ok (.istore_n 3, 1) := by decide +kernel
theorem dX3_share_18 : decode cX3_share 18 = .ok (.aload_n 0, 1) := by decide +kernel
theorem dX3_share_19 : decode cX3_share 19 = .ok (.getfield 9, 3) := by decide +kernel
theorem dX3_share_22 : decode cX3_share 22 = .ok (.iload_n 1, 1) := by decide +kernel
theorem dX3_share_23 : decode cX3_share 23 = .ok (.aload_n 0, 1) := by decide +kernel
theorem dX3_share_24 : decode cX3_share 24 = .ok (.aload_n 0, 1) := by decide +kernel
theorem dX3_share_25 : decode cX3_share 25 = .ok (.getfield 39, 3) := by decide +kernel
theorem dX3_share_28 : decode cX3_share 28 = .ok (.invokevirtual 35, 3) := by decide +kernel
theorem dX3_share_31 : decode cX3_share 31 = .ok (.invokevirtual 42, 3) := by decide +kernel
theorem dX3_share_34 : decode cX3_share 34 = .ok (.aload_n 0, 1) := by decide +kernel
theorem dX3_share_35 : decode cX3_share 35 = .ok (.getfield 9, 3) := by decide +kernel
theorem dX3_share_38 : decode cX3_share 38 = .ok (.iload_n 2, 1) := by decide +kernel
theorem dX3_share_39 : decode cX3_share 39 = .ok (.iload_n 3, 1) := by decide +kernel
theorem dX3_share_40 : decode cX3_share 40 = .ok (.invokevirtual 42, 3) := by decide +kernel
theorem dX3_share_43 : decode cX3_share 43 = .ok (.iconst 0, 1) := by decide +kernel
theorem dX3_share_44 : decode cX3_share 44 = .ok (.istore 4, 2) := by decide +kernel
theorem dX3_share_46 : decode cX3_share 46 = .ok (.iload 4, 2) := by decide +kernel
theorem dX3_share_48 : decode cX3_share 48 = .ok (.aload_n 0, 1) := by decide +kernel
theorem dX3_share_49 : decode cX3_share 49 = .ok (.getfield 21, 3) := by decide +kernel
theorem dX3_share_52 : decode cX3_share 52 = .ok (.arraylength, 1) := by decide +kernel
theorem dX3_share_53 : decode cX3_share 53 = .ok (.if_icmp .ge 93, 3) := by decide +kernel
theorem dX3_share_56 : decode cX3_share 56 = .ok (.aload_n 0, 1) := by decide +kernel
theorem dX3_share_57 : decode cX3_share 57 = .ok (.getfield 46, 3) := by decide +kernel
theorem dX3_share_60 : decode cX3_share 60 = .ok (.ifCond .le 86, 3) := by decide +kernel
theorem dX3_share_63 : decode cX3_share 63 = .ok (.aload_n 0, 1) := by decide +kernel
theorem dX3_share_64 : decode cX3_share 64 = .ok (.iload_n 1, 1) := by decide +kernel
theorem dX3_share_65 : decode cX3_share 65 = .ok (.invokevirtual 49, 3) := by decide +kernel
theorem dX3_share_68 : decode cX3_share 68 = .ok (.ifCond .eq 19, 3) := by decide +kernel
theorem dX3_share_71 : decode cX3_share 71 = .ok (.aload_n 0, 1) := by decide +kernel
theorem dX3_share_72 : decode cX3_share 72 = .ok (.getfield 9, 3) := by decide +kernel
theorem dX3_share_75 : decode cX3_share 75 = .ok (.iload_n 1, 1) := by decide +kernel
theorem dX3_share_76 : decode cX3_share 76 = .ok (.aload_n 0, 1) := by decide +kernel
theorem dX3_share_77 : decode cX3_share 77 = .ok (.iconst 0, 1) := by decide +kernel
theorem dX3_share_78 : decode cX3_share 78 = .ok (.invokevirtual 35, 3) := by decide +kernel
theorem dX3_share_81 : decode cX3_share 81 = .ok (.invokevirtual 42, 3) := by decide +kernel
theorem dX3_share_84 : decode cX3_share 84 = .ok (.goto 56, 3) := by decide +kernel
theorem dX3_share_87 : decode cX3_share 87 = .ok (.aload_n 0, 1) := by decide +kernel
theorem dX3_share_88 : decode cX3_share 88 = .ok (.iload_n 2, 1) := by decide +kernel
theorem dX3_share_89 : decode cX3_share 89 = .ok (.invokevirtual 49, 3) := by decide +kernel
theorem dX3_share_92 : decode cX3_share 92 = .ok (.ifCond .eq 19, 3) := by decide +kernel
theorem dX3_share_95 : decode cX3_share 95 = .ok (.aload_n 0, 1) := by decide +kernel
theorem dX3_share_96 : decode cX3_share 96 = .ok (.getfield 9, 3) := by decide +kernel
theorem dX3_share_99 : decode cX3_share 99 = .ok (.iload_n 2, 1) := by decide +kernel
theorem dX3_share_100 : decode cX3_share 100 = .ok (.aload_n 0, 1) := by decide +kernel
theorem dX3_share_101 : decode cX3_share 101 = .ok (.iconst 0, 1) := by decide +kernel
theorem dX3_share_102 : decode cX3_share 102 = .ok (.invokevirtual 35, 3) := by decide +kernel
theorem dX3_share_105 : decode cX3_share 105 = .ok (.invokevirtual 42, 3) := by decide +kernel
theorem dX3_share_108 : decode cX3_share 108 = .ok (.goto 32, 3) := by decide +kernel
theorem dX3_share_111 : decode cX3_share 111 = .ok (.aload_n 0, 1) := by decide +kernel
theorem dX3_share_112 : decode cX3_share 112 = .ok (.aload_n 0, 1) := by decide +kernel
theorem dX3_share_113 : decode cX3_share 113 = .ok (.iload_n 1, 1) := by decide +kernel
theorem dX3_share_114 : decode cX3_share 114 = .ok (.iload_n 2, 1) := by decide +kernel
theorem dX3_share_115 : decode cX3_share 115 = .ok (.invokevirtual 53, 3) := by decide +kernel
theorem dX3_share_118 : decode cX3_share 118 = .ok (.invokevirtual 35, 3) := by decide +kernel
theorem dX3_share_121 : decode cX3_share 121 = .ok (.istore 5, 2) := by decide +kernel
theorem dX3_share_123 : decode cX3_share 123 = .ok (.aload_n 0, 1) := by decide +kernel
theorem dX3_share_124 : decode cX3_share 124 = .ok (.getfield 9, 3) := by decide +kernel
theorem dX3_share_127 : decode cX3_share 127 = .ok (.aload_n 0, 1) := by decide +kernel
theorem dX3_share_128 : decode cX3_share 128 = .ok (.iload 5, 2) := by decide +kernel
theorem dX3_share_130 : decode cX3_share 130 = .ok (.iload_n 1, 1) := by decide +kernel
theorem dX3_share_131 : decode cX3_share 131 = .ok (.iload_n 2, 1) := by decide +kernel
theorem dX3_share_132 : decode cX3_share 132 = .ok (.invokevirtual 57, 3) := by decide +kernel
theorem dX3_share_135 : decode cX3_share 135 = .ok (.iload 5, 2) := by decide +kernel
theorem dX3_share_137 : decode cX3_share 137 = .ok (.invokevirtual 42, 3) := by decide +kernel
theorem dX3_share_140 : decode cX3_share 140 = .ok (.iinc 4 1, 3) := by decide +kernel
theorem dX3_share_143 : decode cX3_share 143 = .ok (.goto (-97), 3) := by decide +kernel
theorem dX3_share_146 : decode cX3_share 146 = .ok (.return_, 1) := by decide +kernel
theorem dX3_pourOut_0 : decode cX3_pourOut 0 = .ok (.aload_n 0, 1) := by decide +kernel
theorem dX3_pourOut_1 : decode cX3_pourOut 1 = .ok (.aload_n 0, 1) := by decide +kernel
theorem dX3_pourOut_2 : decode cX3_pourOut 2 = .ok (.getfield 9, 3) := by decide +kernel
theorem dX3_pourOut_5 : decode cX3_pourOut 5 = .ok (.getfield 61, 3) := by decide +kernel
theorem dX3_pourOut_8 : decode cX3_pourOut 8 = .ok (.iload_n 1, 1) := by decide +kernel
theorem dX3_pourOut_9 : decode cX3_pourOut 9 = .ok (.iaload, 1) := by decide +kernel
theorem dX3_pourOut_10 : decode cX3_pourOut 10 = .ok (.aload_n 0, 1) := by decide +kernel
theorem dX3_pourOut_11 : decode cX3_pourOut 11 = .ok (.getfield 21, 3) := by decide +kernel
theorem dX3_pourOut_14 : decode cX3_pourOut 14 = .ok (.arraylength, 1) := by decide +kernel
theorem dX3_pourOut_15 : decode cX3_pourOut 15 = .ok (.invokestatic 64, 3) := by decide +kernel
theorem dX3_pourOut_18 : decode cX3_pourOut 18 = .ok (.putfield 46, 3) := by decide +kernel
theorem dX3_pourOut_21 : decode cX3_pourOut 21 = .ok (.iconst 0, 1) := by decide +kernel
theorem dX3_pourOut_22 : decode cX3_pourOut 22 = .ok (.istore_n 2, 1) := by decide +kernel
theorem dX3_pourOut_23 : decode cX3_pourOut 23 = .ok (.iload_n 2, 1) := by decide +kernel
theorem dX3_pourOut_24 : decode cX3_pourOut 24 = .ok (.aload_n 0, 1) := by decide +kernel
theorem dX3_pourOut_25 : decode cX3_pourOut 25 = .ok (.getfield 46, 3) := by decide +kernel
theorem dX3_pourOut_28 : decode cX3_pourOut 28 = .ok (.if_icmp .ge 24, 3) := by decide +kernel
theorem dX3_pourOut_31 : decode cX3_pourOut 31 = .ok (.aload_n 0, 1) := by decide +kernel
theorem dX3_pourOut_32 : decode cX3_pourOut 32 = .ok (.getfield 21, 3) := by decide +kernel
theorem dX3_pourOut_35 : decode cX3_pourOut 35 = .ok (.iload_n 2, 1) := by decide +kernel
theorem dX3_pourOut_36 : decode cX3_pourOut 36 = .ok (.aload_n 0, 1) := by decide +kernel
theorem dX3_pourOut_37 : decode cX3_pourOut 37 = .ok (.getfield 9, 3) := by decide +kernel
theorem dX3_pourOut_40 : decode cX3_pourOut 40 = .ok (.iload_n 1, 1) := by decide +kernel
theorem dX3_pourOut_41 : decode cX3_pourOut 41 = .ok (.iload_n 2, 1) := by decide +kernel
theorem dX3_pourOut_42 : decode cX3_pourOut 42 = .ok (.invokevirtual 69, 3) := by decide +kernel
theorem dX3_pourOut_45 : decode cX3_pourOut 45 = .ok (.iastore, 1) := by decide +kernel
theorem dX3_pourOut_46 : decode cX3_pourOut 46 = .ok (.iinc 2 1, 3) := by decide +kernel
theorem dX3_pourOut_49 : decode cX3_pourOut 49 = .ok (.goto (-26), 3) := by decide +kernel
theorem dX3_pourOut_52 : decode cX3_pourOut 52 = .ok (.aload_n 0, 1) := by decide +kernel
theorem dX3_pourOut_53 : decode cX3_pourOut 53 = .ok (.getfield 9, 3) := by decide +kernel
theorem dX3_pourOut_56 : decode cX3_pourOut 56 = .ok (.getfield 61, 3) := by decide +kernel
theorem dX3_pourOut_59 : decode cX3_pourOut 59 = .ok (.iload_n 1, 1) := by decide +kernel
theorem dX3_pourOut_60 : decode cX3_pourOut 60 = .ok (.iconst 0, 1) := by decide +kernel
theorem dX3_pourOut_61 : decode cX3_pourOut 61 = .ok (.iastore, 1) := by decide +kernel
theorem dX3_pourOut_62 : decode cX3_pourOut 62 = .ok (.return_, 1) := by decide +kernel
theorem dX3_findSeeds_0 : decode cX3_findSeeds 0 = .ok (.ldc 74, 2) := by decide +kernel
theorem dX3_findSeeds_2 : decode cX3_findSeeds 2 = .ok (.istore_n 1, 1) := by decide +kernel
theorem dX3_findSeeds_3 : decode cX3_findSeeds 3 = .ok (.iconst 0, 1) := by decide +kernel
theorem dX3_findSeeds_4 : decode cX3_findSeeds 4 = .ok (.istore_n 2, 1) := by decide +kernel
theorem dX3_findSeeds_5 : decode cX3_findSeeds 5 = .ok (.iload_n 2, 1) := by decide +kernel
theorem dX3_findSeeds_6 : decode cX3_findSeeds 6 = .ok (.aload_n 0, 1) := by decide +kernel
theorem dX3_findSeeds_7 : decode cX3_findSeeds 7 = .ok (.getfield 46, 3) := by decide +kernel
theorem dX3_findSeeds_10 : decode cX3_findSeeds 10 = .ok (.if_icmp .ge 81, 3) := by decide +kernel
theorem dX3_findSeeds_13 : decode cX3_findSeeds 13 = .ok (.iload_n 2, 1) := by decide +kernel
theorem dX3_findSeeds_14 : decode cX3_findSeeds 14 = .ok (.iconst 1, 1) := by decide +kernel
theorem dX3_findSeeds_15 : decode cX3_findSeeds 15 = .ok (.iadd, 1) := by decide +kernel
theorem dX3_findSeeds_16 : decode cX3_findSeeds 16 = .ok (.istore_n 3, 1) := by decide +kernel
theorem dX3_findSeeds_17 : decode cX3_findSeeds 17 = .ok (.iload_n 3, 1) := by decide +kernel
theorem dX3_findSeeds_18 : decode cX3_findSeeds 18 = .ok (.aload_n 0, 1) := by decide +kernel
theorem dX3_findSeeds_19 : decode cX3_findSeeds 19 = .ok (.getfield 46, 3) := by decide +kernel
theorem dX3_findSeeds_22 : decode cX3_findSeeds 22 = .ok (.if_icmp .ge 63, 3) := by decide +kernel
theorem dX3_findSeeds_25 : decode cX3_findSeeds 25 = .ok (.aload_n 0, 1) := by decide +kernel
theorem dX3_findSeeds_26 : decode cX3_findSeeds 26 = .ok (.getfield 9, 3) := by decide +kernel
theorem dX3_findSeeds_29 : decode cX3_findSeeds 29 = .ok (.aload_n 0, 1) := by decide +kernel
theorem dX3_findSeeds_30 : decode cX3_findSeeds 30 = .ok (.getfield 21, 3) := by decide +kernel
theorem dX3_findSeeds_33 : decode cX3_findSeeds 33 = .ok (.iload_n 2, 1) := by decide +kernel
theorem dX3_findSeeds_34 : decode cX3_findSeeds 34 = .ok (.iaload, 1) := by decide +kernel
theorem dX3_findSeeds_35 : decode cX3_findSeeds 35 = .ok (.aload_n 0, 1) := by decide +kernel
theorem dX3_findSeeds_36 : decode cX3_findSeeds 36 = .ok (.getfield 21, 3) := by decide +kernel
theorem dX3_findSeeds_39 : decode cX3_findSeeds 39 = .ok (.iload_n 3, 1) := by decide +kernel
theorem dX3_findSeeds_40 : decode cX3_findSeeds 40 = .ok (.iaload, 1) := by decide +kernel
theorem dX3_findSeeds_41 : decode cX3_findSeeds 41 = .ok (.invokevirtual 75, 3) := by decide +kernel
theorem dX3_findSeeds_44 : decode cX3_findSeeds 44 = .ok (.aload_n 0, 1) := by decide +kernel
theorem dX3_findSeeds_45 : decode cX3_findSeeds 45 = .ok (.getfield 9, 3) := by decide +kernel
theorem dX3_findSeeds_48 : decode cX3_findSeeds 48 = .ok (.aload_n 0, 1) := by decide +kernel
theorem dX3_findSeeds_49 : decode cX3_findSeeds 49 = .ok (.getfield 21, 3) := by decide +kernel
theorem dX3_findSeeds_52 : decode cX3_findSeeds 52 = .ok (.iload_n 3, 1) := by decide +kernel
theorem dX3_findSeeds_53 : decode cX3_findSeeds 53 = .ok (.iaload, 1) := by decide +kernel
theorem dX3_findSeeds_54 : decode cX3_findSeeds 54 = .ok (.invokevirtual 78, 3) := by decide +kernel
theorem dX3_findSeeds_57 : decode cX3_findSeeds 57 = .ok (.isub, 1) := by decide +kernel
theorem dX3_findSeeds_58 : decode cX3_findSeeds 58 = .ok (.istore 4, 2) := by decide +kernel
theorem dX3_findSeeds_60 : decode cX3_findSeeds 60 = .ok (.iload 4, 2) := by decide +kernel
theorem dX3_findSeeds_62 : decode cX3_findSeeds 62 = .ok (.iload_n 1, 1) := by decide +kernel
theorem dX3_findSeeds_63 : decode cX3_findSeeds 63 = .ok (.if_icmp .le 16, 3) := by decide +kernel
theorem dX3_findSeeds_66 : decode cX3_findSeeds 66 = .ok (.iload 4, 2) := by decide +kernel
theorem dX3_findSeeds_68 : decode cX3_findSeeds 68 = .ok (.istore_n 1, 1) := by decide +kernel
theorem dX3_findSeeds_69 : decode cX3_findSeeds 69 = .ok (.aload_n 0, 1) := by decide +kernel
theorem dX3_findSeeds_70 : decode cX3_findSeeds 70 = .ok (.iload_n 2, 1) := by decide +kernel
theorem dX3_findSeeds_71 : decode cX3_findSeeds 71 = .ok (.putfield 39, 3) := by decide +kernel
theorem dX3_findSeeds_74 : decode cX3_findSeeds 74 = .ok (.aload_n 0, 1) := by decide +kernel
theorem dX3_findSeeds_75 : decode cX3_findSeeds 75 = .ok (.iload_n 3, 1) := by decide +kernel
theorem dX3_findSeeds_76 : decode cX3_findSeeds 76 = .ok (.putfield 32, 3) := by decide +kernel
theorem dX3_findSeeds_79 : decode cX3_findSeeds 79 = .ok (.iinc 3 1, 3) := by decide +kernel
theorem dX3_findSeeds_82 : decode cX3_findSeeds 82 = .ok (.goto (-65), 3) := by decide +kernel
theorem dX3_findSeeds_85 : decode cX3_findSeeds 85 = .ok (.iinc 2 1, 3) := by decide +kernel
theorem dX3_findSeeds_88 : decode cX3_findSeeds 88 = .ok (.goto (-83), 3) := by decide +kernel
theorem dX3_findSeeds_91 : decode cX3_findSeeds 91 = .ok (.return_, 1) := by decide +kernel
theorem dX3_takeLeft_0 : decode cX3_takeLeft 0 = .ok (.iload_n 1, 1) := by decide +kernel
theorem dX3_takeLeft_1 : decode cX3_takeLeft 1 = .ok (.ifCond .lt 11, 3) := by decide +kernel
theorem dX3_takeLeft_4 : decode cX3_takeLeft 4 = .ok (.iload_n 1, 1) := by decide +kernel
theorem dX3_takeLeft_5 : decode cX3_takeLeft 5 = .ok (.aload_n 0, 1) := by decide +kernel
theorem dX3_takeLeft_6 : decode cX3_takeLeft 6 = .ok (.getfield 46, 3) := by decide +kernel
theorem dX3_takeLeft_9 : decode cX3_takeLeft 9 = .ok (.if_icmp .lt 7, 3) := by decide +kernel
theorem dX3_takeLeft_12 : decode cX3_takeLeft 12 = .ok (.sipush 806, 3) := by decide +kernel
theorem dX3_takeLeft_15 : decode cX3_takeLeft 15 = .ok (.ireturn, 1) := by decide +kernel
theorem dX3_takeLeft_16 : decode cX3_takeLeft 16 = .ok (.aload_n 0, 1) := by decide +kernel
theorem dX3_takeLeft_17 : decode cX3_takeLeft 17 = .ok (.getfield 21, 3) := by decide +kernel
theorem dX3_takeLeft_20 : decode cX3_takeLeft 20 = .ok (.iload_n 1, 1) := by decide +kernel
theorem dX3_takeLeft_21 : decode cX3_takeLeft 21 = .ok (.iaload, 1) := by decide +kernel
theorem dX3_takeLeft_22 : decode cX3_takeLeft 22 = .ok (.istore_n 2, 1) := by decide +kernel
theorem dX3_takeLeft_23 : decode cX3_takeLeft 23 = .ok (.aload_n 0, 1) := by decide +kernel
theorem dX3_takeLeft_24 : decode cX3_takeLeft 24 = .ok (.dup, 1) := by decide +kernel
theorem dX3_takeLeft_25 : decode cX3_takeLeft 25 = .ok (.getfield 46, 3) := by decide +kernel
theorem dX3_takeLeft_28 : decode cX3_takeLeft 28 = .ok (.iconst 1, 1) := by decide +kernel
theorem dX3_takeLeft_29 : decode cX3_takeLeft 29 = .ok (.isub, 1) := by decide +kernel
theorem dX3_takeLeft_30 : decode cX3_takeLeft 30 = .ok (.putfield 46, 3) := by decide +kernel
theorem dX3_takeLeft_33 : decode cX3_takeLeft 33 = .ok (.iload_n 1, 1) := by decide +kernel
theorem dX3_takeLeft_34 : decode cX3_takeLeft 34 = .ok (.istore_n 3, 1) := by decide +kernel
theorem dX3_takeLeft_35 : decode cX3_takeLeft 35 = .ok (.iload_n 3, 1) := by decide +kernel
theorem dX3_takeLeft_36 : decode cX3_takeLeft 36 = .ok (.aload_n 0, 1) := by decide +kernel
theorem dX3_takeLeft_37 : decode cX3_takeLeft 37 = .ok (.getfield 46, 3) := by decide +kernel
theorem dX3_takeLeft_40 : decode cX3_takeLeft 40 = .ok (.if_icmp .ge 23, 3) := by decide +kernel
theorem dX3_takeLeft_43 : decode cX3_takeLeft 43 = .ok (.aload_n 0, 1) := by decide +kernel
theorem dX3_takeLeft_44 : decode cX3_takeLeft 44 = .ok (.getfield 21, 3) := by decide +kernel
theorem dX3_takeLeft_47 : decode cX3_takeLeft 47 = .ok (.iload_n 3, 1) := by decide +kernel
theorem dX3_takeLeft_48 : decode cX3_takeLeft 48 = .ok (.aload_n 0, 1) := by decide +kernel
theorem dX3_takeLeft_49 : decode cX3_takeLeft 49 = .ok (.getfield 21, 3) := by decide +kernel
theorem dX3_takeLeft_52 : decode cX3_takeLeft 52 = .ok (.iload_n 3, 1) := by decide +kernel
theorem dX3_takeLeft_53 : decode cX3_takeLeft 53 = .ok (.iconst 1, 1) := by decide +kernel
theorem dX3_takeLeft_54 : decode cX3_takeLeft 54 = .ok (.iadd, 1) := by decide +kernel
theorem dX3_takeLeft_55 : decode cX3_takeLeft 55 = .ok (.iaload, 1) := by decide +kernel
theorem dX3_takeLeft_56 : decode cX3_takeLeft 56 = .ok (.iastore, 1) := by decide +kernel
theorem dX3_takeLeft_57 : decode cX3_takeLeft 57 = .ok (.iinc 3 1, 3) := by decide +kernel
theorem dX3_takeLeft_60 : decode cX3_takeLeft 60 = .ok (.goto (-25), 3) := by decide +kernel
theorem dX3_takeLeft_63 : decode cX3_takeLeft 63 = .ok (.iload_n 2, 1) := by decide +kernel
theorem dX3_takeLeft_64 : decode cX3_takeLeft 64 = .ok (.ireturn, 1) := by decide +kernel
theorem dX3_needsAll_0 : decode cX3_needsAll 0 = .ok (.aload_n 0, 1) := by decide +kernel
theorem dX3_needsAll_1 : decode cX3_needsAll 1 = .ok (.getfield 9, 3) := by decide +kernel
theorem dX3_needsAll_4 : decode cX3_needsAll 4 = .ok (.getfield 61, 3) := by decide +kernel
theorem dX3_needsAll_7 : decode cX3_needsAll 7 = .ok (.iload_n 1, 1) := by decide +kernel
theorem dX3_needsAll_8 : decode cX3_needsAll 8 = .ok (.iaload, 1) := by decide +kernel
theorem dX3_needsAll_9 : decode cX3_needsAll 9 = .ok (.aload_n 0, 1) := by decide +kernel
theorem dX3_needsAll_10 : decode cX3_needsAll 10 = .ok (.getfield 46, 3) := by decide +kernel
theorem dX3_needsAll_13 : decode cX3_needsAll 13 = .ok (.iadd, 1) := by decide +kernel
theorem dX3_needsAll_14 : decode cX3_needsAll 14 = .ok (.aload_n 0, 1) := by decide +kernel
theorem dX3_needsAll_15 : decode cX3_needsAll 15 = .ok (.getfield 9, 3) := by decide +kernel
theorem dX3_needsAll_18 : decode cX3_needsAll 18 = .ok (.getfield 81, 3) := by decide +kernel
theorem dX3_needsAll_21 : decode cX3_needsAll 21 = .ok (.if_icmp .gt 7, 3) := by decide +kernel
theorem dX3_needsAll_24 : decode cX3_needsAll 24 = .ok (.iconst 1, 1) := by decide +kernel
theorem dX3_needsAll_25 : decode cX3_needsAll 25 = .ok (.goto 4, 3) := by decide +kernel
theorem dX3_needsAll_28 : decode cX3_needsAll 28 = .ok (.iconst 0, 1) := by decide +kernel
theorem dX3_needsAll_29 : decode cX3_needsAll 29 = .ok (.ireturn, 1) := by decide +kernel
theorem dX3_mostDecided_0 : decode cX3_mostDecided 0 = .ok (.iconst 0, 1) := by decide +kernel
theorem dX3_mostDecided_1 : decode cX3_mostDecided 1 = .ok (.istore_n 3, 1) := by decide +kernel
theorem dX3_mostDecided_2 : decode cX3_mostDecided 2 = .ok (.iconst (-1), 1) := by decide +kernel
theorem dX3_mostDecided_3 : decode cX3_mostDecided 3 = .ok (.istore 4, 2) := by decide +kernel
theorem dX3_mostDecided_5 : decode cX3_mostDecided 5 = .ok (.iconst 0, 1) := by decide +kernel
theorem dX3_mostDecided_6 : decode cX3_mostDecided 6 = .ok (.istore 5, 2) := by decide +kernel
theorem dX3_mostDecided_8 : decode cX3_mostDecided 8 = .ok (.iload 5, 2) := by decide +kernel
theorem dX3_mostDecided_10 : decode cX3_mostDecided 10 = .ok (.aload_n 0, 1) := by decide +kernel
theorem dX3_mostDecided_11 : decode cX3_mostDecided 11 = .ok (.getfield 46, 3) := by decide +kernel
theorem dX3_mostDecided_14 : decode cX3_mostDecided 14 = .ok (.if_icmp .ge 59, 3) := by decide +kernel
theorem dX3_mostDecided_17 : decode cX3_mostDecided 17 = .ok (.aload_n 0, 1) := by decide +kernel
theorem dX3_mostDecided_18 : decode cX3_mostDecided 18 = .ok (.getfield 9, 3) := by decide +kernel
theorem dX3_mostDecided_21 : decode cX3_mostDecided 21 = .ok (.iload_n 1, 1) := by decide +kernel
theorem dX3_mostDecided_22 : decode cX3_mostDecided 22 = .ok (.aload_n 0, 1) := by decide +kernel
theorem dX3_mostDecided_23 : decode cX3_mostDecided 23 = .ok (.getfield 21, 3) := by decide +kernel
theorem dX3_mostDecided_26 : decode cX3_mostDecided 26 = .ok (.iload 5, 2) := by decide +kernel
theorem dX3_mostDecided_28 : decode cX3_mostDecided 28 = .ok (.iaload, 1) := by decide +kernel
theorem dX3_mostDecided_29 : decode cX3_mostDecided 29 = .ok (.invokevirtual 75, 3) := by decide +kernel
theorem dX3_mostDecided_32 : decode cX3_mostDecided 32 = .ok (.aload_n 0, 1) := by decide +kernel
theorem dX3_mostDecided_33 : decode cX3_mostDecided 33 = .ok (.getfield 9, 3) := by decide +kernel
theorem dX3_mostDecided_36 : decode cX3_mostDecided 36 = .ok (.iload_n 2, 1) := by decide +kernel
theorem dX3_mostDecided_37 : decode cX3_mostDecided 37 = .ok (.aload_n 0, 1) := by decide +kernel
theorem dX3_mostDecided_38 : decode cX3_mostDecided 38 = .ok (.getfield 21, 3) := by decide +kernel
theorem dX3_mostDecided_41 : decode cX3_mostDecided 41 = .ok (.iload 5, 2) := by decide +kernel
theorem dX3_mostDecided_43 : decode cX3_mostDecided 43 = .ok (.iaload, 1) := by decide +kernel
theorem dX3_mostDecided_44 : decode cX3_mostDecided 44 = .ok (.invokevirtual 75, 3) := by decide +kernel
theorem dX3_mostDecided_47 : decode cX3_mostDecided 47 = .ok (.isub, 1) := by decide +kernel
theorem dX3_mostDecided_48 : decode cX3_mostDecided 48 = .ok (.invokestatic 84, 3) := by decide +kernel
theorem dX3_mostDecided_51 : decode cX3_mostDecided 51 = .ok (.istore 6, 2) := by decide +kernel
theorem dX3_mostDecided_53 : decode cX3_mostDecided 53 = .ok (.iload 6, 2) := by decide +kernel
theorem dX3_mostDecided_55 : decode cX3_mostDecided 55 = .ok (.iload 4, 2) := by decide +kernel
theorem dX3_mostDecided_57 : decode cX3_mostDecided 57 = .ok (.if_icmp .le 10, 3) := by decide +kernel
theorem dX3_mostDecided_60 : decode cX3_mostDecided 60 = .ok (.iload 5, 2) := by decide +kernel
theorem dX3_mostDecided_62 : decode cX3_mostDecided 62 = .ok (.istore_n 3, 1) := by decide +kernel
theorem dX3_mostDecided_63 : decode cX3_mostDecided 63 = .ok (.iload 6, 2) := by decide +kernel
theorem dX3_mostDecided_65 : decode cX3_mostDecided 65 = .ok (.istore 4, 2) := by decide +kernel
theorem dX3_mostDecided_67 : decode cX3_mostDecided 67 = .ok (.iinc 5 1, 3) := by decide +kernel
theorem dX3_mostDecided_70 : decode cX3_mostDecided 70 = .ok (.goto (-62), 3) := by decide +kernel
theorem dX3_mostDecided_73 : decode cX3_mostDecided 73 = .ok (.iload_n 3, 1) := by decide +kernel
theorem dX3_mostDecided_74 : decode cX3_mostDecided 74 = .ok (.ireturn, 1) := by decide +kernel
theorem dX3_fitting_0 : decode cX3_fitting 0 = .ok (.aload_n 0, 1) := by decide +kernel
theorem dX3_fitting_1 : decode cX3_fitting 1 = .ok (.getfield 9, 3) := by decide +kernel
theorem dX3_fitting_4 : decode cX3_fitting 4 = .ok (.iload_n 2, 1) := by decide +kernel
theorem dX3_fitting_5 : decode cX3_fitting 5 = .ok (.iload_n 1, 1) := by decide +kernel
theorem dX3_fitting_6 : decode cX3_fitting 6 = .ok (.invokevirtual 75, 3) := by decide +kernel
theorem dX3_fitting_9 : decode cX3_fitting 9 = .ok (.aload_n 0, 1) := by decide +kernel
theorem dX3_fitting_10 : decode cX3_fitting 10 = .ok (.getfield 9, 3) := by decide +kernel
theorem dX3_fitting_13 : decode cX3_fitting 13 = .ok (.iload_n 3, 1) := by decide +kernel
theorem dX3_fitting_14 : decode cX3_fitting 14 = .ok (.iload_n 1, 1) := by decide +kernel
theorem dX3_fitting_15 : decode cX3_fitting 15 = .ok (.invokevirtual 75, 3) := by decide +kernel
theorem dX3_fitting_18 : decode cX3_fitting 18 = .ok (.invokestatic 87, 3) := by decide +kernel
theorem dX3_fitting_21 : decode cX3_fitting 21 = .ok (.istore 4, 2) := by decide +kernel
theorem dX3_fitting_23 : decode cX3_fitting 23 = .ok (.iload 4, 2) := by decide +kernel
theorem dX3_fitting_25 : decode cX3_fitting 25 = .ok (.ifCond .ne 24, 3) := by decide +kernel
theorem dX3_fitting_28 : decode cX3_fitting 28 = .ok (.aload_n 0, 1) := by decide +kernel
theorem dX3_fitting_29 : decode cX3_fitting 29 = .ok (.getfield 9, 3) := by decide +kernel
theorem dX3_fitting_32 : decode cX3_fitting 32 = .ok (.iload_n 2, 1) := by decide +kernel
theorem dX3_fitting_33 : decode cX3_fitting 33 = .ok (.invokevirtual 78, 3) := by decide +kernel
theorem dX3_fitting_36 : decode cX3_fitting 36 = .ok (.aload_n 0, 1) := by decide +kernel
theorem dX3_fitting_37 : decode cX3_fitting 37 = .ok (.getfield 9, 3) := by decide +kernel
theorem dX3_fitting_40 : decode cX3_fitting 40 = .ok (.iload_n 3, 1) := by decide +kernel
theorem dX3_fitting_41 : decode cX3_fitting 41 = .ok (.invokevirtual 78, 3) := by decide +kernel
theorem dX3_fitting_44 : decode cX3_fitting 44 = .ok (.invokestatic 87, 3) := by decide +kernel
theorem dX3_fitting_47 : decode cX3_fitting 47 = .ok (.istore 4, 2) := by decide +kernel
theorem dX3_fitting_49 : decode cX3_fitting 49 = .ok (.iload 4, 2) := by decide +kernel
theorem dX3_fitting_51 : decode cX3_fitting 51 = .ok (.ifCond .ne 26, 3) := by decide +kernel
theorem dX3_fitting_54 : decode cX3_fitting 54 = .ok (.aload_n 0, 1) := by decide +kernel
theorem dX3_fitting_55 : decode cX3_fitting 55 = .ok (.getfield 9, 3) := by decide +kernel
theorem dX3_fitting_58 : decode cX3_fitting 58 = .ok (.getfield 61, 3) := by decide +kernel
theorem dX3_fitting_61 : decode cX3_fitting 61 = .ok (.iload_n 2, 1) := by decide +kernel
theorem dX3_fitting_62 : decode cX3_fitting 62 = .ok (.iaload, 1) := by decide +kernel
theorem dX3_fitting_63 : decode cX3_fitting 63 = .ok (.aload_n 0, 1) := by decide +kernel
theorem dX3_fitting_64 : decode cX3_fitting 64 = .ok (.getfield 9, 3) := by decide +kernel
theorem dX3_fitting_67 : decode cX3_fitting 67 = .ok (.getfield 61, 3) := by decide +kernel
theorem dX3_fitting_70 : decode cX3_fitting 70 = .ok (.iload_n 3, 1) := by decide +kernel
theorem dX3_fitting_71 : decode cX3_fitting 71 = .ok (.iaload, 1) := by decide +kernel
theorem dX3_fitting_72 : decode cX3_fitting 72 = .ok (.invokestatic 87, 3) := by decide +kernel
theorem dX3_fitting_75 : decode cX3_fitting 75 = .ok (.istore 4, 2) := by decide +kernel
theorem dX3_fitting_77 : decode cX3_fitting 77 = .ok (.iload 4, 2) := by decide +kernel
theorem dX3_fitting_79 : decode cX3_fitting 79 = .ok (.ifCond .gt 7, 3) := by decide +kernel
theorem dX3_fitting_82 : decode cX3_fitting 82 = .ok (.iload_n 2, 1) := by decide +kernel
theorem dX3_fitting_83 : decode cX3_fitting 83 = .ok (.goto 4, 3) := by decide +kernel
theorem dX3_fitting_86 : decode cX3_fitting 86 = .ok (.iload_n 3, 1) := by decide +kernel
theorem dX3_fitting_87 : decode cX3_fitting 87 = .ok (.ireturn, 1) := by decide +kernel
theorem dX4_init_0 : decode cX4_init 0 = .ok (.aload_n 0, 1) := by decide +kernel
theorem dX4_init_1 : decode cX4_init 1 = .ok (.invokespecial 3, 3) := by decide +kernel
theorem dX4_init_4 : decode cX4_init 4 = .ok (.aload_n 0, 1) := by decide +kernel
theorem dX4_init_5 : decode cX4_init 5 = .ok (.sipush 807, 3) := by decide +kernel
theorem dX4_init_8 : decode cX4_init 8 = .ok (.newarray .int, 2) := by decide +kernel
theorem dX4_init_10 : decode cX4_init 10 = .ok (.putfield 9, 3) := by decide +kernel
theorem dX4_init_13 : decode cX4_init 13 = .ok (.aload_n 0, 1) := by decide +kernel
theorem dX4_init_14 : decode cX4_init 14 = .ok (.sipush 807, 3) := by decide +kernel
theorem dX4_init_17 : decode cX4_init 17 = .ok (.newarray .int, 2) := by decide +kernel
theorem dX4_init_19 : decode cX4_init 19 = .ok (.putfield 15, 3) := by decide +kernel
theorem dX4_init_22 : decode cX4_init 22 = .ok (.aload_n 0, 1) := by decide +kernel
theorem dX4_init_23 : decode cX4_init 23 = .ok (.sipush 807, 3) := by decide +kernel
theorem dX4_init_26 : decode cX4_init 26 = .ok (.newarray .int, 2) := by decide +kernel
theorem dX4_init_28 : decode cX4_init 28 = .ok (.putfield 18, 3) := by decide +kernel
theorem dX4_init_31 : decode cX4_init 31 = .ok (.aload_n 0, 1) := by decide +kernel
theorem dX4_init_32 : decode cX4_init 32 = .ok (.sipush 807, 3) := by decide +kernel
theorem dX4_init_35 : decode cX4_init 35 = .ok (.newarray .int, 2) := by decide +kernel
theorem dX4_init_37 : decode cX4_init 37 = .ok (.putfield 21, 3) := by decide +kernel
theorem dX4_init_40 : decode cX4_init 40 = .ok (.aload_n 0, 1) := by decide +kernel
theorem dX4_init_41 : decode cX4_init 41 = .ok (.sipush 807, 3) := by decide +kernel
theorem dX4_init_44 : decode cX4_init 44 = .ok (.newarray .int, 2) := by decide +kernel
theorem dX4_init_46 : decode cX4_init 46 = .ok (.putfield 24, 3) := by decide +kernel
theorem dX4_init_49 : decode cX4_init 49 = .ok (.aload_n 0, 1) := by decide +kernel
theorem dX4_init_50 : decode cX4_init 50 = .ok (.sipush 807, 3) := by decide +kernel
theorem dX4_init_53 : decode cX4_init 53 = .ok (.newarray .int, 2) := by decide +kernel
theorem dX4_init_55 : decode cX4_init 55 = .ok (.putfield 27, 3) := by decide +kernel
theorem dX4_init_58 : decode cX4_init 58 = .ok (.aload_n 0, 1) := by decide +kernel
theorem dX4_init_59 : decode cX4_init 59 = .ok (.sipush 807, 3) := by decide +kernel
theorem dX4_init_62 : decode cX4_init 62 = .ok (.newarray .int, 2) := by decide +kernel
theorem dX4_init_64 : decode cX4_init 64 = .ok (.putfield 30, 3) := by decide +kernel
theorem dX4_init_67 : decode cX4_init 67 = .ok (.aload_n 0, 1) := by decide +kernel
theorem dX4_init_68 : decode cX4_init 68 = .ok (.sipush 807, 3) := by decide +kernel
theorem dX4_init_71 : decode cX4_init 71 = .ok (.newarray .int, 2) := by decide +kernel
theorem dX4_init_73 : decode cX4_init 73 = .ok (.putfield 33, 3) := by decide +kernel
theorem dX4_init_76 : decode cX4_init 76 = .ok (.aload_n 0, 1) := by decide +kernel
theorem dX4_init_77 : decode cX4_init 77 = .ok (.iload_n 1, 1) := by decide +kernel
theorem dX4_init_78 : decode cX4_init 78 = .ok (.putfield 36, 3) := by decide +kernel
theorem dX4_init_81 : decode cX4_init 81 = .ok (.aload_n 0, 1) := by decide +kernel
theorem dX4_init_82 : decode cX4_init 82 = .ok (.iload_n 2, 1) := by decide +kernel
theorem dX4_init_83 : decode cX4_init 83 = .ok (.putfield 40, 3) := by decide +kernel
theorem dX4_init_86 : decode cX4_init 86 = .ok (.aload_n 0, 1) := by decide +kernel
theorem dX4_init_87 : decode cX4_init 87 = .ok (.iload_n 1, 1) := by decide +kernel
theorem dX4_init_88 : decode cX4_init 88 = .ok (.iconst 1, 1) := by decide +kernel
theorem dX4_init_89 : decode cX4_init 89 = .ok (.iadd, 1) := by decide +kernel
theorem dX4_init_90 : decode cX4_init 90 = .ok (.putfield 43, 3) := by decide +kernel
theorem dX4_init_93 : decode cX4_init 93 = .ok (.aload_n 0, 1) := by decide +kernel
theorem dX4_init_94 : decode cX4_init 94 = .ok (.sipush 404, 3) := by decide +kernel
theorem dX4_init_97 : decode cX4_init 97 = .ok (.aload_n 0, 1) := by decide +kernel
theorem dX4_init_98 : decode cX4_init 98 = .ok (.getfield 43, 3) := by decide +kernel
theorem dX4_init_101 : decode cX4_init 101 = .ok (.imul, 1) := by decide +kernel
theorem dX4_init_102 : decode cX4_init 102 = .ok (.newarray .int, 2) := by decide +kernel
theorem dX4_init_104 : decode cX4_init 104 = .ok (.putfield 46, 3) := by decide +kernel
theorem dX4_init_107 : decode cX4_init 107 = .ok (.aload_n 0, 1) := by decide +kernel
theorem dX4_init_108 : decode cX4_init 108 = .ok (.invokevirtual 49, 3) := by decide +kernel
theorem dX4_init_111 : decode cX4_init 111 = .ok (.aload_n 0, 1) := by decide +kernel
theorem dX4_init_112 : decode cX4_init 112 = .ok (.invokevirtual 52, 3) := by decide +kernel
theorem dX4_init_115 : decode cX4_init 115 = .ok (.return_, 1) := by decide +kernel
theorem dX4_forgetEntries_0 : decode cX4_forgetEntries 0 = .ok (.aload_n 0, 1) := by decide +kernel
theorem dX4_forgetEntries_1 : decode cX4_forgetEntries 1 = .ok (.iconst 0, 1) := by decide +kernel
theorem dX4_forgetEntries_2 : decode cX4_forgetEntries 2 = .ok (.putfield 55, 3) := by decide +kernel
theorem dX4_forgetEntries_5 : decode cX4_forgetEntries 5 = .ok (.aload_n 0, 1) := by decide +kernel
theorem dX4_forgetEntries_6 : decode cX4_forgetEntries 6 = .ok (.iconst 0, 1) := by decide +kernel
theorem dX4_forgetEntries_7 : decode cX4_forgetEntries 7 = .ok (.putfield 58, 3) := by decide +kernel
theorem dX4_forgetEntries_10 : decode cX4_forgetEntries 10 = .ok (.aload_n 0, 1) := by decide +kernel
theorem dX4_forgetEntries_11 : decode cX4_forgetEntries 11 = .ok (.iconst (-1), 1) := by decide +kernel
theorem dX4_forgetEntries_12 : decode cX4_forgetEntries 12 = .ok (.putfield 61, 3) := by decide +kernel
theorem dX4_forgetEntries_15 : decode cX4_forgetEntries 15 = .ok (.return_, 1) := by decide +kernel
theorem dX4_forgetNodes_0 : decode cX4_forgetNodes 0 = .ok (.aload_n 0, 1) := by decide +kernel
theorem dX4_forgetNodes_1 : decode cX4_forgetNodes 1 = .ok (.sipush 400, 3) := by decide +kernel
theorem dX4_forgetNodes_4 : decode cX4_forgetNodes 4 = .ok (.putfield 64, 3) := by decide +kernel
theorem dX4_forgetNodes_7 : decode cX4_forgetNodes 7 = .ok (.aload_n 0, 1) := by decide +kernel
theorem dX4_forgetNodes_8 : decode cX4_forgetNodes 8 = .ok (.iconst (-1), 1) := by decide +kernel
theorem dX4_forgetNodes_9 : decode cX4_forgetNodes 9 = .ok (.putfield 67, 3) := by decide +kernel
theorem dX4_forgetNodes_12 : decode cX4_forgetNodes 12 = .ok (.return_, 1) := by decide +kernel
theorem dX4_newEntry_0 : decode cX4_newEntry 0 = .ok (.aload_n 0, 1) := by decide +kernel
theorem dX4_newEntry_1 : decode cX4_newEntry 1 = .ok (.getfield 61, 3) := by decide +kernel
theorem dX4_newEntry_4 : decode cX4_newEntry 4 = .ok (.istore_n 2, 1) := by decide +kernel
theorem dX4_newEntry_5 : decode cX4_newEntry 5 = .ok (.iload_n 2, 1) := by decide +kernel
theorem dX4_newEntry_6 : decode cX4_newEntry 6 = .ok (.iconst (-1), 1) := by decide +kernel
theorem dX4_newEntry_7 : decode cX4_newEntry 7 = .ok (.if_icmp .eq 16, 3) := by decide +kernel
theorem dX4_newEntry_10 : decode cX4_newEntry 10 = .ok (.aload_n 0, 1) := by decide +kernel
theorem dX4_newEntry_11 : decode cX4_newEntry 11 = .ok (.aload_n 0, 1) := by decide +kernel
theorem dX4_newEntry_12 : decode cX4_newEntry 12 = .ok (.getfield 30, 3) := by decide +kernel
theorem dX4_newEntry_15 : decode cX4_newEntry 15 = .ok (.iload_n 2, 1) := by decide +kernel
theorem dX4_newEntry_16 : decode cX4_newEntry 16 = .ok (.iaload, 1) := by decide +kernel
theorem dX4_newEntry_17 : decode cX4_newEntry 17 = .ok (.putfield 61, 3) := by decide +kernel
theorem dX4_newEntry_20 : decode cX4_newEntry 20 = .ok (.goto 32, 3) := by decide +kernel
theorem dX4_newEntry_23 : decode cX4_newEntry 23 = .ok (.aload_n 0, 1) := by decide +kernel
theorem dX4_newEntry_24 : decode cX4_newEntry 24 = .ok (.getfield 58, 3) := by decide +kernel
theorem dX4_newEntry_27 : decode cX4_newEntry 27 = .ok (.sipush 400, 3) := by decide +kernel
theorem dX4_newEntry_30 : decode cX4_newEntry 30 = .ok (.if_icmp .ge 18, 3) := by decide +kernel
theorem dX4_newEntry_33 : decode cX4_newEntry 33 = .ok (.aload_n 0, 1) := by decide +kernel
theorem dX4_newEntry_34 : decode cX4_newEntry 34 = .ok (.dup, 1) := by decide +kernel
theorem dX4_newEntry_35 : decode cX4_newEntry 35 = .ok (.getfield 58, 3) := by decide +kernel
theorem dX4_newEntry_38 : decode cX4_newEntry 38 = .ok (.dup_x1, 1) := by decide +kernel
theorem dX4_newEntry_39 : decode cX4_newEntry 39 = .ok (.iconst 1, 1) := by decide +kernel
theorem dX4_newEntry_40 : decode cX4_newEntry 40 = .ok (.iadd, 1) := by decide +kernel
theorem dX4_newEntry_41 : decode cX4_newEntry 41 = .ok (.putfield 58, 3) := by decide +kernel
theorem dX4_newEntry_44 : decode cX4_newEntry 44 = .ok (.istore_n 2, 1) := by decide +kernel
theorem dX4_newEntry_45 : decode cX4_newEntry 45 = .ok (.goto 7, 3) := by decide +kernel
theorem dX4_newEntry_48 : decode cX4_newEntry 48 = .ok (.sipush 806, 3) := by decide +kernel
theorem dX4_newEntry_51 : decode cX4_newEntry 51 = .ok (.ireturn, 1) := by decide +kernel
theorem dX4_newEntry_52 : decode cX4_newEntry 52 = .ok (.aload_n 0, 1) := by decide +kernel
theorem dX4_newEntry_53 : decode cX4_newEntry 53 = .ok (.dup, 1) := by decide +kernel
theorem dX4_newEntry_54 : decode cX4_newEntry 54 = .ok (.getfield 55, 3) := by decide +kernel
theorem dX4_newEntry_57 : decode cX4_newEntry 57 = .ok (.iconst 1, 1) := by decide +kernel
theorem dX4_newEntry_58 : decode cX4_newEntry 58 = .ok (.iadd, 1) := by decide +kernel
theorem dX4_newEntry_59 : decode cX4_newEntry 59 = .ok (.putfield 55, 3) := by decide +kernel
theorem dX4_newEntry_62 : decode cX4_newEntry 62 = .ok (.aload_n 0, 1) := by decide +kernel
theorem dX4_newEntry_63 : decode cX4_newEntry 63 = .ok (.getfield 9, 3) := by decide +kernel
theorem dX4_newEntry_66 : decode cX4_newEntry 66 = .ok (.iload_n 2, 1) := by decide +kernel
theorem dX4_newEntry_67 : decode cX4_newEntry 67 = .ok (.iconst (-1), 1) := by decide +kernel
theorem dX4_newEntry_68 : decode cX4_newEntry 68 = .ok (.iastore, 1) := by decide +kernel
theorem dX4_newEntry_69 : decode cX4_newEntry 69 = .ok (.aload_n 0, 1) := by decide +kernel
theorem dX4_newEntry_70 : decode cX4_newEntry 70 = .ok (.getfield 27, 3) := by decide +kernel
theorem dX4_newEntry_73 : decode cX4_newEntry 73 = .ok (.iload_n 2, 1) := by decide +kernel
theorem dX4_newEntry_74 : decode cX4_newEntry 74 = .ok (.aload_n 0, 1) := by decide +kernel
theorem dX4_newEntry_75 : decode cX4_newEntry 75 = .ok (.getfield 27, 3) := by decide +kernel
theorem dX4_newEntry_78 : decode cX4_newEntry 78 = .ok (.iload_n 1, 1) := by decide +kernel
theorem dX4_newEntry_79 : decode cX4_newEntry 79 = .ok (.iaload, 1) := by decide +kernel
theorem dX4_newEntry_80 : decode cX4_newEntry 80 = .ok (.iastore, 1) := by decide +kernel
theorem dX4_newEntry_81 : decode cX4_newEntry 81 = .ok (.aload_n 0, 1) := by decide +kernel
theorem dX4_newEntry_82 : decode cX4_newEntry 82 = .ok (.iload_n 1, 1) := by decide +kernel
theorem dX4_newEntry_83 : decode cX4_newEntry 83 = .ok (.iload_n 2, 1) := by decide +kernel
theorem dX4_newEntry_84 : decode cX4_newEntry 84 = .ok (.invokevirtual 70, 3) := by decide +kernel
theorem dX4_newEntry_87 : decode cX4_newEntry 87 = .ok (.iload_n 2, 1) := by decide +kernel
theorem dX4_newEntry_88 : decode cX4_newEntry 88 = .ok (.ireturn, 1) := by decide +kernel
theorem dX4_freeEntry_0 : decode cX4_freeEntry 0 = .ok (.aload_n 0, 1) := by decide +kernel
theorem dX4_freeEntry_1 : decode cX4_freeEntry 1 = .ok (.dup, 1) := by decide +kernel
theorem dX4_freeEntry_2 : decode cX4_freeEntry 2 = .ok (.getfield 55, 3) := by decide +kernel
theorem dX4_freeEntry_5 : decode cX4_freeEntry 5 = .ok (.iconst 1, 1) := by decide +kernel
theorem dX4_freeEntry_6 : decode cX4_freeEntry 6 = .ok (.isub, 1) := by decide +kernel
theorem dX4_freeEntry_7 : decode cX4_freeEntry 7 = .ok (.putfield 55, 3) := by decide +kernel
theorem dX4_freeEntry_10 : decode cX4_freeEntry 10 = .ok (.aload_n 0, 1) := by decide +kernel
theorem dX4_freeEntry_11 : decode cX4_freeEntry 11 = .ok (.getfield 9, 3) := by decide +kernel
theorem dX4_freeEntry_14 : decode cX4_freeEntry 14 = .ok (.iload_n 1, 1) := by decide +kernel
theorem dX4_freeEntry_15 : decode cX4_freeEntry 15 = .ok (.bipush (-2), 2) := by decide +kernel
theorem dX4_freeEntry_17 : decode cX4_freeEntry 17 = .ok (.iastore, 1) := by decide +kernel
theorem dX4_freeEntry_18 : decode cX4_freeEntry 18 = .ok (.aload_n 0, 1) := by decide +kernel
theorem dX4_freeEntry_19 : decode cX4_freeEntry 19 = .ok (.getfield 30, 3) := by decide +kernel
theorem dX4_freeEntry_22 : decode cX4_freeEntry 22 = .ok (.iload_n 1, 1) := by decide +kernel
theorem dX4_freeEntry_23 : decode cX4_freeEntry 23 = .ok (.aload_n 0, 1) := by decide +kernel
theorem dX4_freeEntry_24 : decode cX4_freeEntry 24 = .ok (.getfield 61, 3) := by decide +kernel
theorem dX4_freeEntry_27 : decode cX4_freeEntry 27 = .ok (.iastore, 1) := by decide +kernel
theorem dX4_freeEntry_28 : decode cX4_freeEntry 28 = .ok (.aload_n 0, 1) := by decide +kernel
theorem dX4_freeEntry_29 : decode cX4_freeEntry 29 = .ok (.iload_n 1, 1) := by decide +kernel
theorem dX4_freeEntry_30 : decode cX4_freeEntry 30 = .ok (.putfield 61, 3) := by decide +kernel
theorem dX4_freeEntry_33 : decode cX4_freeEntry 33 = .ok (.return_, 1) := by decide +kernel
theorem dX4_newNode_0 : decode cX4_newNode 0 = .ok (.aload_n 0, 1) := by decide +kernel
theorem dX4_newNode_1 : decode cX4_newNode 1 = .ok (.getfield 67, 3) := by decide +kernel
theorem dX4_newNode_4 : decode cX4_newNode 4 = .ok (.istore_n 2, 1) := by decide +kernel
theorem dX4_newNode_5 : decode cX4_newNode 5 = .ok (.iload_n 2, 1) := by decide +kernel
theorem dX4_newNode_6 : decode cX4_newNode 6 = .ok (.iconst (-1), 1) := by decide +kernel
theorem dX4_newNode_7 : decode cX4_newNode 7 = .ok (.if_icmp .eq 16, 3) := by decide +kernel
theorem dX4_newNode_10 : decode cX4_newNode 10 = .ok (.aload_n 0, 1) := by decide +kernel
theorem dX4_newNode_11 : decode cX4_newNode 11 = .ok (.aload_n 0, 1) := by decide +kernel
theorem dX4_newNode_12 : decode cX4_newNode 12 = .ok (.getfield 30, 3) := by decide +kernel
theorem dX4_newNode_15 : decode cX4_newNode 15 = .ok (.iload_n 2, 1) := by decide +kernel
theorem dX4_newNode_16 : decode cX4_newNode 16 = .ok (.iaload, 1) := by decide +kernel
theorem dX4_newNode_17 : decode cX4_newNode 17 = .ok (.putfield 67, 3) := by decide +kernel
theorem dX4_newNode_20 : decode cX4_newNode 20 = .ok (.goto 32, 3) := by decide +kernel
theorem dX4_newNode_23 : decode cX4_newNode 23 = .ok (.aload_n 0, 1) := by decide +kernel
theorem dX4_newNode_24 : decode cX4_newNode 24 = .ok (.getfield 64, 3) := by decide +kernel
theorem dX4_newNode_27 : decode cX4_newNode 27 = .ok (.sipush 804, 3) := by decide +kernel
theorem dX4_newNode_30 : decode cX4_newNode 30 = .ok (.if_icmp .ge 18, 3) := by decide +kernel
theorem dX4_newNode_33 : decode cX4_newNode 33 = .ok (.aload_n 0, 1) := by decide +kernel
theorem dX4_newNode_34 : decode cX4_newNode 34 = .ok (.dup, 1) := by decide +kernel
theorem dX4_newNode_35 : decode cX4_newNode 35 = .ok (.getfield 64, 3) := by decide +kernel
theorem dX4_newNode_38 : decode cX4_newNode 38 = .ok (.dup_x1, 1) := by decide +kernel
theorem dX4_newNode_39 : decode cX4_newNode 39 = .ok (.iconst 1, 1) := by decide +kernel
theorem dX4_newNode_40 : decode cX4_newNode 40 = .ok (.iadd, 1) := by decide +kernel
theorem dX4_newNode_41 : decode cX4_newNode 41 = .ok (.putfield 64, 3) := by decide +kernel
theorem dX4_newNode_44 : decode cX4_newNode 44 = .ok (.istore_n 2, 1) := by decide +kernel
theorem dX4_newNode_45 : decode cX4_newNode 45 = .ok (.goto 7, 3) := by decide +kernel
theorem dX4_newNode_48 : decode cX4_newNode 48 = .ok (.sipush 806, 3) := by decide +kernel
theorem dX4_newNode_51 : decode cX4_newNode 51 = .ok (.ireturn, 1) := by decide +kernel
theorem dX4_newNode_52 : decode cX4_newNode 52 = .ok (.aload_n 0, 1) := by decide +kernel
theorem dX4_newNode_53 : decode cX4_newNode 53 = .ok (.getfield 9, 3) := by decide +kernel
theorem dX4_newNode_56 : decode cX4_newNode 56 = .ok (.iload_n 2, 1) := by decide +kernel
theorem dX4_newNode_57 : decode cX4_newNode 57 = .ok (.iload_n 1, 1) := by decide +kernel
theorem dX4_newNode_58 : decode cX4_newNode 58 = .ok (.iastore, 1) := by decide +kernel
theorem dX4_newNode_59 : decode cX4_newNode 59 = .ok (.aload_n 0, 1) := by decide +kernel
theorem dX4_newNode_60 : decode cX4_newNode 60 = .ok (.getfield 33, 3) := by decide +kernel
theorem dX4_newNode_63 : decode cX4_newNode 63 = .ok (.iload_n 2, 1) := by decide +kernel
theorem dX4_newNode_64 : decode cX4_newNode 64 = .ok (.iconst 0, 1) := by decide +kernel
theorem dX4_newNode_65 : decode cX4_newNode 65 = .ok (.iastore, 1) := by decide +kernel
theorem dX4_newNode_66 : decode cX4_newNode 66 = .ok (.aload_n 0, 1) := by decide +kernel
theorem dX4_newNode_67 : decode cX4_newNode 67 = .ok (.getfield 30, 3) := by decide +kernel
theorem dX4_newNode_70 : decode cX4_newNode 70 = .ok (.iload_n 2, 1) := by decide +kernel
theorem dX4_newNode_71 : decode cX4_newNode 71 = .ok (.iconst (-1), 1) := by decide +kernel
theorem dX4_newNode_72 : decode cX4_newNode 72 = .ok (.iastore, 1) := by decide +kernel
theorem dX4_newNode_73 : decode cX4_newNode 73 = .ok (.iload_n 2, 1) := by decide +kernel
theorem dX4_newNode_74 : decode cX4_newNode 74 = .ok (.ireturn, 1) := by decide +kernel
theorem dX4_freeNode_0 : decode cX4_freeNode 0 = .ok (.aload_n 0, 1) := by decide +kernel
theorem dX4_freeNode_1 : decode cX4_freeNode 1 = .ok (.getfield 9, 3) := by decide +kernel
theorem dX4_freeNode_4 : decode cX4_freeNode 4 = .ok (.iload_n 1, 1) := by decide +kernel
theorem dX4_freeNode_5 : decode cX4_freeNode 5 = .ok (.bipush (-2), 2) := by decide +kernel
theorem dX4_freeNode_7 : decode cX4_freeNode 7 = .ok (.iastore, 1) := by decide +kernel
theorem dX4_freeNode_8 : decode cX4_freeNode 8 = .ok (.aload_n 0, 1) := by decide +kernel
theorem dX4_freeNode_9 : decode cX4_freeNode 9 = .ok (.getfield 30, 3) := by decide +kernel
theorem dX4_freeNode_12 : decode cX4_freeNode 12 = .ok (.iload_n 1, 1) := by decide +kernel
theorem dX4_freeNode_13 : decode cX4_freeNode 13 = .ok (.aload_n 0, 1) := by decide +kernel
theorem dX4_freeNode_14 : decode cX4_freeNode 14 = .ok (.getfield 67, 3) := by decide +kernel
theorem dX4_freeNode_17 : decode cX4_freeNode 17 = .ok (.iastore, 1) := by decide +kernel
theorem dX4_freeNode_18 : decode cX4_freeNode 18 = .ok (.aload_n 0, 1) := by decide +kernel
theorem dX4_freeNode_19 : decode cX4_freeNode 19 = .ok (.iload_n 1, 1) := by decide +kernel
theorem dX4_freeNode_20 : decode cX4_freeNode 20 = .ok (.putfield 67, 3) := by decide +kernel
theorem dX4_freeNode_23 : decode cX4_freeNode 23 = .ok (.return_, 1) := by decide +kernel
theorem dX4_isEntry_0 : decode cX4_isEntry 0 = .ok (.aload_n 0, 1) := by decide +kernel
theorem dX4_isEntry_1 : decode cX4_isEntry 1 = .ok (.getfield 9, 3) := by decide +kernel
theorem dX4_isEntry_4 : decode cX4_isEntry 4 = .ok (.iload_n 1, 1) := by decide +kernel
end
section
theorem dX4_isEntry_5 : decode cX4_isEntry 5 = .ok (.iaload, 1) := by decide +kernel
theorem dX4_isEntry_6 : decode cX4_isEntry 6 = .ok (.iconst (-1), 1) := by decide +kernel
theorem dX4_isEntry_7 : decode cX4_isEntry 7 = .ok (.if_icmp .ne 7, 3) := by decide +kernel
theorem dX4_isEntry_10 : decode cX4_isEntry 10 = .ok (.iconst 1, 1) := by decide +kernel
theorem dX4_isEntry_11 : decode cX4_isEntry 11 = .ok (.goto 4, 3) := by decide +kernel
theorem dX4_isEntry_14 : decode cX4_isEntry 14 = .ok (.iconst 0, 1) := by decide +kernel
theorem dX4_isEntry_15 : decode cX4_isEntry 15 = .ok (.ireturn, 1) := by decide +kernel
theorem dX4_describe_0 : decode cX4_describe 0 = .ok (.aload_n 0, 1) := by decide +kernel
theorem dX4_describe_1 : decode cX4_describe 1 = .ok (.getfield 27, 3) := by decide +kernel
theorem dX4_describe_4 : decode cX4_describe 4 = .ok (.iload_n 1, 1) := by decide +kernel
theorem dX4_describe_5 : decode cX4_describe 5 = .ok (.iload_n 2, 1) := by decide +kernel
theorem dX4_describe_6 : decode cX4_describe 6 = .ok (.iastore, 1) := by decide +kernel
theorem dX4_describe_7 : decode cX4_describe 7 = .ok (.aload_n 0, 1) := by decide +kernel
theorem dX4_describe_8 : decode cX4_describe 8 = .ok (.getfield 15, 3) := by decide +kernel
theorem dX4_describe_11 : decode cX4_describe 11 = .ok (.iload_n 1, 1) := by decide +kernel
theorem dX4_describe_12 : decode cX4_describe 12 = .ok (.iload_n 3, 1) := by decide +kernel
theorem dX4_describe_13 : decode cX4_describe 13 = .ok (.iastore, 1) := by decide +kernel
theorem dX4_describe_14 : decode cX4_describe 14 = .ok (.aload_n 0, 1) := by decide +kernel
theorem dX4_describe_15 : decode cX4_describe 15 = .ok (.getfield 18, 3) := by decide +kernel
theorem dX4_describe_18 : decode cX4_describe 18 = .ok (.iload_n 1, 1) := by decide +kernel
theorem dX4_describe_19 : decode cX4_describe 19 = .ok (.iload 4, 2) := by decide +kernel
theorem dX4_describe_21 : decode cX4_describe 21 = .ok (.iastore, 1) := by decide +kernel
theorem dX4_describe_22 : decode cX4_describe 22 = .ok (.aload_n 0, 1) := by decide +kernel
theorem dX4_describe_23 : decode cX4_describe 23 = .ok (.getfield 21, 3) := by decide +kernel
theorem dX4_describe_26 : decode cX4_describe 26 = .ok (.iload_n 1, 1) := by decide +kernel
theorem dX4_describe_27 : decode cX4_describe 27 = .ok (.iload 5, 2) := by decide +kernel
theorem dX4_describe_29 : decode cX4_describe 29 = .ok (.iastore, 1) := by decide +kernel
theorem dX4_describe_30 : decode cX4_describe 30 = .ok (.aload_n 0, 1) := by decide +kernel
theorem dX4_describe_31 : decode cX4_describe 31 = .ok (.getfield 24, 3) := by decide +kernel
theorem dX4_describe_34 : decode cX4_describe 34 = .ok (.iload_n 1, 1) := by decide +kernel
theorem dX4_describe_35 : decode cX4_describe 35 = .ok (.iload 6, 2) := by decide +kernel
theorem dX4_describe_37 : decode cX4_describe 37 = .ok (.iastore, 1) := by decide +kernel
theorem dX4_describe_38 : decode cX4_describe 38 = .ok (.return_, 1) := by decide +kernel
theorem dX4_side_0 : decode cX4_side 0 = .ok (.iload_n 2, 1) := by decide +kernel
theorem dX4_side_1 : decode cX4_side 1 = .ok (.tableswitch 59 0 3 #[31, 38, 45, 52], 31) := by decide +kernel
theorem dX4_side_32 : decode cX4_side 32 = .ok (.aload_n 0, 1) := by decide +kernel
theorem dX4_side_33 : decode cX4_side 33 = .ok (.getfield 15, 3) := by decide +kernel
theorem dX4_side_36 : decode cX4_side 36 = .ok (.iload_n 1, 1) := by decide +kernel
theorem dX4_side_37 : decode cX4_side 37 = .ok (.iaload, 1) := by decide +kernel
theorem dX4_side_38 : decode cX4_side 38 = .ok (.ireturn, 1) := by decide +kernel
theorem dX4_side_39 : decode cX4_side 39 = .ok (.aload_n 0, 1) := by decide +kernel
theorem dX4_side_40 : decode cX4_side 40 = .ok (.getfield 18, 3) := by decide +kernel
theorem dX4_side_43 : decode cX4_side 43 = .ok (.iload_n 1, 1) := by decide +kernel
theorem dX4_side_44 : decode cX4_side 44 = .ok (.iaload, 1) := by decide +kernel
theorem dX4_side_45 : decode cX4_side 45 = .ok (.ireturn, 1) := by decide +kernel
theorem dX4_side_46 : decode cX4_side 46 = .ok (.aload_n 0, 1) := by decide +kernel
theorem dX4_side_47 : decode cX4_side 47 = .ok (.getfield 21, 3) := by decide +kernel
theorem dX4_side_50 : decode cX4_side 50 = .ok (.iload_n 1, 1) := by decide +kernel
theorem dX4_side_51 : decode cX4_side 51 = .ok (.iaload, 1) := by decide +kernel
theorem dX4_side_52 : decode cX4_side 52 = .ok (.ireturn, 1) := by decide +kernel
theorem dX4_side_53 : decode cX4_side 53 = .ok (.aload_n 0, 1) := by decide +kernel
theorem dX4_side_54 : decode cX4_side 54 = .ok (.getfield 24, 3) := by decide +kernel
theorem dX4_side_57 : decode cX4_side 57 = .ok (.iload_n 1, 1) := by decide +kernel
theorem dX4_side_58 : decode cX4_side 58 = .ok (.iaload, 1) := by decide +kernel
theorem dX4_side_59 : decode cX4_side 59 = .ok (.ireturn, 1) := by decide +kernel
theorem dX4_side_60 : decode cX4_side 60 = .ok (.iconst (-1), 1) := by decide +kernel
theorem dX4_side_61 : decode cX4_side 61 = .ok (.ireturn, 1) := by decide +kernel
theorem dX4_area_0 : decode cX4_area 0 = .ok (.aload_n 0, 1) := by decide +kernel
theorem dX4_area_1 : decode cX4_area 1 = .ok (.getfield 21, 3) := by decide +kernel
theorem dX4_area_4 : decode cX4_area 4 = .ok (.iload_n 1, 1) := by decide +kernel
theorem dX4_area_5 : decode cX4_area 5 = .ok (.iaload, 1) := by decide +kernel
theorem dX4_area_6 : decode cX4_area 6 = .ok (.aload_n 0, 1) := by decide +kernel
theorem dX4_area_7 : decode cX4_area 7 = .ok (.getfield 15, 3) := by decide +kernel
theorem dX4_area_10 : decode cX4_area 10 = .ok (.iload_n 1, 1) := by decide +kernel
theorem dX4_area_11 : decode cX4_area 11 = .ok (.iaload, 1) := by decide +kernel
theorem dX4_area_12 : decode cX4_area 12 = .ok (.isub, 1) := by decide +kernel
theorem dX4_area_13 : decode cX4_area 13 = .ok (.iconst 1, 1) := by decide +kernel
theorem dX4_area_14 : decode cX4_area 14 = .ok (.iadd, 1) := by decide +kernel
theorem dX4_area_15 : decode cX4_area 15 = .ok (.aload_n 0, 1) := by decide +kernel
theorem dX4_area_16 : decode cX4_area 16 = .ok (.getfield 24, 3) := by decide +kernel
theorem dX4_area_19 : decode cX4_area 19 = .ok (.iload_n 1, 1) := by decide +kernel
theorem dX4_area_20 : decode cX4_area 20 = .ok (.iaload, 1) := by decide +kernel
theorem dX4_area_21 : decode cX4_area 21 = .ok (.aload_n 0, 1) := by decide +kernel
theorem dX4_area_22 : decode cX4_area 22 = .ok (.getfield 18, 3) := by decide +kernel
theorem dX4_area_25 : decode cX4_area 25 = .ok (.iload_n 1, 1) := by decide +kernel
theorem dX4_area_26 : decode cX4_area 26 = .ok (.iaload, 1) := by decide +kernel
theorem dX4_area_27 : decode cX4_area 27 = .ok (.isub, 1) := by decide +kernel
theorem dX4_area_28 : decode cX4_area 28 = .ok (.iconst 1, 1) := by decide +kernel
theorem dX4_area_29 : decode cX4_area 29 = .ok (.iadd, 1) := by decide +kernel
theorem dX4_area_30 : decode cX4_area 30 = .ok (.imul, 1) := by decide +kernel
theorem dX4_area_31 : decode cX4_area 31 = .ok (.ireturn, 1) := by decide +kernel
theorem dX4_growth_0 : decode cX4_growth 0 = .ok (.aload_n 0, 1) := by decide +kernel
theorem dX4_growth_1 : decode cX4_growth 1 = .ok (.getfield 21, 3) := by decide +kernel
theorem dX4_growth_4 : decode cX4_growth 4 = .ok (.iload_n 1, 1) := by decide +kernel
theorem dX4_growth_5 : decode cX4_growth 5 = .ok (.iaload, 1) := by decide +kernel
theorem dX4_growth_6 : decode cX4_growth 6 = .ok (.aload_n 0, 1) := by decide +kernel
theorem dX4_growth_7 : decode cX4_growth 7 = .ok (.getfield 21, 3) := by decide +kernel
theorem dX4_growth_10 : decode cX4_growth 10 = .ok (.iload_n 2, 1) := by decide +kernel
theorem dX4_growth_11 : decode cX4_growth 11 = .ok (.iaload, 1) := by decide +kernel
theorem dX4_growth_12 : decode cX4_growth 12 = .ok (.invokestatic 74, 3) := by decide +kernel
theorem dX4_growth_15 : decode cX4_growth 15 = .ok (.aload_n 0, 1) := by decide +kernel
theorem dX4_growth_16 : decode cX4_growth 16 = .ok (.getfield 15, 3) := by decide +kernel
theorem dX4_growth_19 : decode cX4_growth 19 = .ok (.iload_n 1, 1) := by decide +kernel
theorem dX4_growth_20 : decode cX4_growth 20 = .ok (.iaload, 1) := by decide +kernel
theorem dX4_growth_21 : decode cX4_growth 21 = .ok (.aload_n 0, 1) := by decide +kernel
theorem dX4_growth_22 : decode cX4_growth 22 = .ok (.getfield 15, 3) := by decide +kernel
theorem dX4_growth_25 : decode cX4_growth 25 = .ok (.iload_n 2, 1) := by decide +kernel
theorem dX4_growth_26 : decode cX4_growth 26 = .ok (.iaload, 1) := by decide +kernel
theorem dX4_growth_27 : decode cX4_growth 27 = .ok (.invokestatic 80, 3) := by decide +kernel
theorem dX4_growth_30 : decode cX4_growth 30 = .ok (.isub, 1) := by decide +kernel
theorem dX4_growth_31 : decode cX4_growth 31 = .ok (.iconst 1, 1) := by decide +kernel
theorem dX4_growth_32 : decode cX4_growth 32 = .ok (.iadd, 1) := by decide +kernel
theorem dX4_growth_33 : decode cX4_growth 33 = .ok (.istore_n 3, 1) := by decide +kernel
theorem dX4_growth_34 : decode cX4_growth 34 = .ok (.aload_n 0, 1) := by decide +kernel
theorem dX4_growth_35 : decode cX4_growth 35 = .ok (.getfield 24, 3) := by decide +kernel
theorem dX4_growth_38 : decode cX4_growth 38 = .ok (.iload_n 1, 1) := by decide +kernel
theorem dX4_growth_39 : decode cX4_growth 39 = .ok (.iaload, 1) := by decide +kernel
theorem dX4_growth_40 : decode cX4_growth 40 = .ok (.aload_n 0, 1) := by decide +kernel
theorem dX4_growth_41 : decode cX4_growth 41 = .ok (.getfield 24, 3) := by decide +kernel
theorem dX4_growth_44 : decode cX4_growth 44 = .ok (.iload_n 2, 1) := by decide +kernel
theorem dX4_growth_45 : decode cX4_growth 45 = .ok (.iaload, 1) := by decide +kernel
theorem dX4_growth_46 : decode cX4_growth 46 = .ok (.invokestatic 74, 3) := by decide +kernel
theorem dX4_growth_49 : decode cX4_growth 49 = .ok (.aload_n 0, 1) := by decide +kernel
theorem dX4_growth_50 : decode cX4_growth 50 = .ok (.getfield 18, 3) := by decide +kernel
theorem dX4_growth_53 : decode cX4_growth 53 = .ok (.iload_n 1, 1) := by decide +kernel
theorem dX4_growth_54 : decode cX4_growth 54 = .ok (.iaload, 1) := by decide +kernel
theorem dX4_growth_55 : decode cX4_growth 55 = .ok (.aload_n 0, 1) := by decide +kernel
theorem dX4_growth_56 : decode cX4_growth 56 = .ok (.getfield 18, 3) := by decide +kernel
theorem dX4_growth_59 : decode cX4_growth 59 = .ok (.iload_n 2, 1) := by decide +kernel
theorem dX4_growth_60 : decode cX4_growth 60 = .ok (.iaload, 1) := by decide +kernel
theorem dX4_growth_61 : decode cX4_growth 61 = .ok (.invokestatic 80, 3) := by decide +kernel
theorem dX4_growth_64 : decode cX4_growth 64 = .ok (.isub, 1) := by decide +kernel
theorem dX4_growth_65 : decode cX4_growth 65 = .ok (.iconst 1, 1) := by decide +kernel
theorem dX4_growth_66 : decode cX4_growth 66 = .ok (.iadd, 1) := by decide +kernel
theorem dX4_growth_67 : decode cX4_growth 67 = .ok (.istore 4, 2) := by decide +kernel
theorem dX4_growth_69 : decode cX4_growth 69 = .ok (.iload_n 3, 1) := by decide +kernel
theorem dX4_growth_70 : decode cX4_growth 70 = .ok (.iload 4, 2) := by decide +kernel
theorem dX4_growth_72 : decode cX4_growth 72 = .ok (.imul, 1) := by decide +kernel
theorem dX4_growth_73 : decode cX4_growth 73 = .ok (.aload_n 0, 1) := by decide +kernel
theorem dX4_growth_74 : decode cX4_growth 74 = .ok (.iload_n 1, 1) := by decide +kernel
theorem dX4_growth_75 : decode cX4_growth 75 = .ok (.invokevirtual 83, 3) := by decide +kernel
theorem dX4_growth_78 : decode cX4_growth 78 = .ok (.isub, 1) := by decide +kernel
theorem dX4_growth_79 : decode cX4_growth 79 = .ok (.ireturn, 1) := by decide +kernel
theorem dX4_meet_0 : decode cX4_meet 0 = .ok (.aload_n 0, 1) := by decide +kernel
theorem dX4_meet_1 : decode cX4_meet 1 = .ok (.getfield 15, 3) := by decide +kernel
theorem dX4_meet_4 : decode cX4_meet 4 = .ok (.iload_n 1, 1) := by decide +kernel
theorem dX4_meet_5 : decode cX4_meet 5 = .ok (.iaload, 1) := by decide +kernel
theorem dX4_meet_6 : decode cX4_meet 6 = .ok (.aload_n 0, 1) := by decide +kernel
theorem dX4_meet_7 : decode cX4_meet 7 = .ok (.getfield 21, 3) := by decide +kernel
theorem dX4_meet_10 : decode cX4_meet 10 = .ok (.iload_n 2, 1) := by decide +kernel
theorem dX4_meet_11 : decode cX4_meet 11 = .ok (.iaload, 1) := by decide +kernel
theorem dX4_meet_12 : decode cX4_meet 12 = .ok (.if_icmp .gt 52, 3) := by decide +kernel
theorem dX4_meet_15 : decode cX4_meet 15 = .ok (.aload_n 0, 1) := by decide +kernel
theorem dX4_meet_16 : decode cX4_meet 16 = .ok (.getfield 15, 3) := by decide +kernel
theorem dX4_meet_19 : decode cX4_meet 19 = .ok (.iload_n 2, 1) := by decide +kernel
theorem dX4_meet_20 : decode cX4_meet 20 = .ok (.iaload, 1) := by decide +kernel
theorem dX4_meet_21 : decode cX4_meet 21 = .ok (.aload_n 0, 1) := by decide +kernel
theorem dX4_meet_22 : decode cX4_meet 22 = .ok (.getfield 21, 3) := by decide +kernel
theorem dX4_meet_25 : decode cX4_meet 25 = .ok (.iload_n 1, 1) := by decide +kernel
theorem dX4_meet_26 : decode cX4_meet 26 = .ok (.iaload, 1) := by decide +kernel
theorem dX4_meet_27 : decode cX4_meet 27 = .ok (.if_icmp .gt 37, 3) := by decide +kernel
theorem dX4_meet_30 : decode cX4_meet 30 = .ok (.aload_n 0, 1) := by decide +kernel
theorem dX4_meet_31 : decode cX4_meet 31 = .ok (.getfield 18, 3) := by decide +kernel
theorem dX4_meet_34 : decode cX4_meet 34 = .ok (.iload_n 1, 1) := by decide +kernel
theorem dX4_meet_35 : decode cX4_meet 35 = .ok (.iaload, 1) := by decide +kernel
theorem dX4_meet_36 : decode cX4_meet 36 = .ok (.aload_n 0, 1) := by decide +kernel
theorem dX4_meet_37 : decode cX4_meet 37 = .ok (.getfield 24, 3) := by decide +kernel
theorem dX4_meet_40 : decode cX4_meet 40 = .ok (.iload_n 2, 1) := by decide +kernel
theorem dX4_meet_41 : decode cX4_meet 41 = .ok (.iaload, 1) := by decide +kernel
theorem dX4_meet_42 : decode cX4_meet 42 = .ok (.if_icmp .gt 22, 3) := by decide +kernel
theorem dX4_meet_45 : decode cX4_meet 45 = .ok (.aload_n 0, 1) := by decide +kernel
theorem dX4_meet_46 : decode cX4_meet 46 = .ok (.getfield 18, 3) := by decide +kernel
theorem dX4_meet_49 : decode cX4_meet 49 = .ok (.iload_n 2, 1) := by decide +kernel
theorem dX4_meet_50 : decode cX4_meet 50 = .ok (.iaload, 1) := by decide +kernel
theorem dX4_meet_51 : decode cX4_meet 51 = .ok (.aload_n 0, 1) := by decide +kernel
theorem dX4_meet_52 : decode cX4_meet 52 = .ok (.getfield 24, 3) := by decide +kernel
theorem dX4_meet_55 : decode cX4_meet 55 = .ok (.iload_n 1, 1) := by decide +kernel
theorem dX4_meet_56 : decode cX4_meet 56 = .ok (.iaload, 1) := by decide +kernel
theorem dX4_meet_57 : decode cX4_meet 57 = .ok (.if_icmp .gt 7, 3) := by decide +kernel
theorem dX4_meet_60 : decode cX4_meet 60 = .ok (.iconst 1, 1) := by decide +kernel
theorem dX4_meet_61 : decode cX4_meet 61 = .ok (.goto 4, 3) := by decide +kernel
theorem dX4_meet_64 : decode cX4_meet 64 = .ok (.iconst 0, 1) := by decide +kernel
theorem dX4_meet_65 : decode cX4_meet 65 = .ok (.ireturn, 1) := by decide +kernel
theorem dX4_sameRectangle_0 : decode cX4_sameRectangle 0 = .ok (.aload_n 0, 1) := by decide +kernel
theorem dX4_sameRectangle_1 : decode cX4_sameRectangle 1 = .ok (.getfield 15, 3) := by decide +kernel
theorem dX4_sameRectangle_4 : decode cX4_sameRectangle 4 = .ok (.iload_n 1, 1) := by decide +kernel
theorem dX4_sameRectangle_5 : decode cX4_sameRectangle 5 = .ok (.iaload, 1) := by decide +kernel
theorem dX4_sameRectangle_6 : decode cX4_sameRectangle 6 = .ok (.aload_n 0, 1) := by decide +kernel
theorem dX4_sameRectangle_7 : decode cX4_sameRectangle 7 = .ok (.getfield 15, 3) := by decide +kernel
theorem dX4_sameRectangle_10 : decode cX4_sameRectangle 10 = .ok (.iload_n 2, 1) := by decide +kernel
theorem dX4_sameRectangle_11 : decode cX4_sameRectangle 11 = .ok (.iaload, 1) := by decide +kernel
theorem dX4_sameRectangle_12 : decode cX4_sameRectangle 12 = .ok (.if_icmp .ne 52, 3) := by decide +kernel
theorem dX4_sameRectangle_15 : decode cX4_sameRectangle 15 = .ok (.aload_n 0, 1) := by decide +kernel
theorem dX4_sameRectangle_16 : decode cX4_sameRectangle 16 = .ok (.getfield 18, 3) := by decide +kernel
theorem dX4_sameRectangle_19 : decode cX4_sameRectangle 19 = .ok (.iload_n 1, 1) := by decide +kernel
theorem dX4_sameRectangle_20 : decode cX4_sameRectangle 20 = .ok (.iaload, 1) := by decide +kernel
theorem dX4_sameRectangle_21 : decode cX4_sameRectangle 21 = .ok (.aload_n 0, 1) := by decide +kernel
theorem dX4_sameRectangle_22 : decode cX4_sameRectangle 22 = .ok (.getfield 18, 3) := by decide +kernel
theorem dX4_sameRectangle_25 : decode cX4_sameRectangle 25 = .ok (.iload_n 2, 1) := by decide +kernel
theorem dX4_sameRectangle_26 : decode cX4_sameRectangle 26 = .ok (.iaload, 1) := by decide +kernel
theorem dX4_sameRectangle_27 : decode cX4_sameRectangle 27 = .ok (.if_icmp .ne 37, 3) := by decide +kernel
theorem dX4_sameRectangle_30 : decode cX4_sameRectangle 30 = .ok (.aload_n 0, 1) := by decide +kernel
theorem dX4_sameRectangle_31 : decode cX4_sameRectangle 31 = .ok (.getfield 21, 3) := by decide +kernel
theorem dX4_sameRectangle_34 : decode cX4_sameRectangle 34 = .ok (.iload_n 1, 1) := by decide +kernel
theorem dX4_sameRectangle_35 : decode cX4_sameRectangle 35 = .ok (.iaload, 1) := by decide +kernel
theorem dX4_sameRectangle_36 : decode cX4_sameRectangle 36 = .ok (.aload_n 0, 1) := by decide +kernel
theorem dX4_sameRectangle_37 : decode cX4_sameRectangle 37 = .ok (.getfield 21, 3) := by decide +kernel
theorem dX4_sameRectangle_40 : decode cX4_sameRectangle 40 = .ok (.iload_n 2, 1) := by decide +kernel
theorem dX4_sameRectangle_41 : decode cX4_sameRectangle 41 = .ok (.iaload, 1) := by decide +kernel
theorem dX4_sameRectangle_42 : decode cX4_sameRectangle 42 = .ok (.if_icmp .ne 22, 3) := by decide +kernel
theorem dX4_sameRectangle_45 : decode cX4_sameRectangle 45 = .ok (.aload_n 0, 1) := by decide +kernel
theorem dX4_sameRectangle_46 : decode cX4_sameRectangle 46 = .ok (.getfield 24, 3) := by decide +kernel
theorem dX4_sameRectangle_49 : decode cX4_sameRectangle 49 = .ok (.iload_n 1, 1) := by decide +kernel
theorem dX4_sameRectangle_50 : decode cX4_sameRectangle 50 = .ok (.iaload, 1) := by decide +kernel
theorem dX4_sameRectangle_51 : decode cX4_sameRectangle 51 = .ok (.aload_n 0, 1) := by decide +kernel
theorem dX4_sameRectangle_52 : decode cX4_sameRectangle 52 = .ok (.getfield 24, 3) := by decide +kernel
theorem dX4_sameRectangle_55 : decode cX4_sameRectangle 55 = .ok (.iload_n 2, 1) := by decide +kernel
theorem dX4_sameRectangle_56 : decode cX4_sameRectangle 56 = .ok (.iaload, 1) := by decide +kernel
theorem dX4_sameRectangle_57 : decode cX4_sameRectangle 57 = .ok (.if_icmp .ne 7, 3) := by decide +kernel
theorem dX4_sameRectangle_60 : decode cX4_sameRectangle 60 = .ok (.iconst 1, 1) := by decide +kernel
theorem dX4_sameRectangle_61 : decode cX4_sameRectangle 61 = .ok (.goto 4, 3) := by decide +kernel
theorem dX4_sameRectangle_64 : decode cX4_sameRectangle 64 = .ok (.iconst 0, 1) := by decide +kernel
theorem dX4_sameRectangle_65 : decode cX4_sameRectangle 65 = .ok (.ireturn, 1) := by decide +kernel
theorem dX4_alike_0 : decode cX4_alike 0 = .ok (.aload_n 0, 1) := by decide +kernel
theorem dX4_alike_1 : decode cX4_alike 1 = .ok (.getfield 27, 3) := by decide +kernel
theorem dX4_alike_4 : decode cX4_alike 4 = .ok (.iload_n 1, 1) := by decide +kernel
theorem dX4_alike_5 : decode cX4_alike 5 = .ok (.iaload, 1) := by decide +kernel
theorem dX4_alike_6 : decode cX4_alike 6 = .ok (.aload_n 0, 1) := by decide +kernel
theorem dX4_alike_7 : decode cX4_alike 7 = .ok (.getfield 27, 3) := by decide +kernel
theorem dX4_alike_10 : decode cX4_alike 10 = .ok (.iload_n 2, 1) := by decide +kernel
theorem dX4_alike_11 : decode cX4_alike 11 = .ok (.iaload, 1) := by decide +kernel
theorem dX4_alike_12 : decode cX4_alike 12 = .ok (.if_icmp .ne 16, 3) := by decide +kernel
theorem dX4_alike_15 : decode cX4_alike 15 = .ok (.aload_n 0, 1) := by decide +kernel
theorem dX4_alike_16 : decode cX4_alike 16 = .ok (.iload_n 1, 1) := by decide +kernel
theorem dX4_alike_17 : decode cX4_alike 17 = .ok (.iload_n 2, 1) := by decide +kernel
theorem dX4_alike_18 : decode cX4_alike 18 = .ok (.invokevirtual 87, 3) := by decide +kernel
theorem dX4_alike_21 : decode cX4_alike 21 = .ok (.ifCond .eq 7, 3) := by decide +kernel
theorem dX4_alike_24 : decode cX4_alike 24 = .ok (.iconst 1, 1) := by decide +kernel
theorem dX4_alike_25 : decode cX4_alike 25 = .ok (.goto 4, 3) := by decide +kernel
theorem dX4_alike_28 : decode cX4_alike 28 = .ok (.iconst 0, 1) := by decide +kernel
theorem dX4_alike_29 : decode cX4_alike 29 = .ok (.ireturn, 1) := by decide +kernel
theorem dX4_copyRectangle_0 : decode cX4_copyRectangle 0 = .ok (.aload_n 0, 1) := by decide +kernel
theorem dX4_copyRectangle_1 : decode cX4_copyRectangle 1 = .ok (.getfield 15, 3) := by decide +kernel
theorem dX4_copyRectangle_4 : decode cX4_copyRectangle 4 = .ok (.iload_n 2, 1) := by decide +kernel
theorem dX4_copyRectangle_5 : decode cX4_copyRectangle 5 = .ok (.aload_n 0, 1) := by decide +kernel
theorem dX4_copyRectangle_6 : decode cX4_copyRectangle 6 = .ok (.getfield 15, 3) := by decide +kernel
theorem dX4_copyRectangle_9 : decode cX4_copyRectangle 9 = .ok (.iload_n 1, 1) := by decide +kernel
theorem dX4_copyRectangle_10 : decode cX4_copyRectangle 10 = .ok (.iaload, 1) := by decide +kernel
theorem dX4_copyRectangle_11 : decode cX4_copyRectangle 11 = .ok (.iastore, 1) := by decide +kernel
theorem dX4_copyRectangle_12 : decode cX4_copyRectangle 12 = .ok (.aload_n 0, 1) := by decide +kernel
theorem dX4_copyRectangle_13 : decode cX4_copyRectangle 13 = .ok (.getfield 18, 3) := by decide +kernel
theorem dX4_copyRectangle_16 : decode cX4_copyRectangle 16 = .ok (.iload_n 2, 1) := by decide +kernel
theorem dX4_copyRectangle_17 : decode cX4_copyRectangle 17 = .ok (.aload_n 0, 1) := by decide +kernel
theorem dX4_copyRectangle_18 : decode cX4_copyRectangle 18 = .ok (.getfield 18, 3) := by decide +kernel
theorem dX4_copyRectangle_21 : decode cX4_copyRectangle 21 = .ok (.iload_n 1, 1) := by decide +kernel
theorem dX4_copyRectangle_22 : decode cX4_copyRectangle 22 = .ok (.iaload, 1) := by decide +kernel
theorem dX4_copyRectangle_23 : decode cX4_copyRectangle 23 = .ok (.iastore, 1) := by decide +kernel
theorem dX4_copyRectangle_24 : decode cX4_copyRectangle 24 = .ok (.aload_n 0, 1) := by decide +kernel
theorem dX4_copyRectangle_25 : decode cX4_copyRectangle 25 = .ok (.getfield 21, 3) := by decide +kernel
theorem dX4_copyRectangle_28 : decode cX4_copyRectangle 28 = .ok (.iload_n 2, 1) := by decide +kernel
theorem dX4_copyRectangle_29 : decode cX4_copyRectangle 29 = .ok (.aload_n 0, 1) := by decide +kernel
theorem dX4_copyRectangle_30 : decode cX4_copyRectangle 30 = .ok (.getfield 21, 3) := by decide +kernel
theorem dX4_copyRectangle_33 : decode cX4_copyRectangle 33 = .ok (.iload_n 1, 1) := by decide +kernel
theorem dX4_copyRectangle_34 : decode cX4_copyRectangle 34 = .ok (.iaload, 1) := by decide +kernel
theorem dX4_copyRectangle_35 : decode cX4_copyRectangle 35 = .ok (.iastore, 1) := by decide +kernel
theorem dX4_copyRectangle_36 : decode cX4_copyRectangle 36 = .ok (.aload_n 0, 1) := by decide +kernel
theorem dX4_copyRectangle_37 : decode cX4_copyRectangle 37 = .ok (.getfield 24, 3) := by decide +kernel
theorem dX4_copyRectangle_40 : decode cX4_copyRectangle 40 = .ok (.iload_n 2, 1) := by decide +kernel
theorem dX4_copyRectangle_41 : decode cX4_copyRectangle 41 = .ok (.aload_n 0, 1) := by decide +kernel
theorem dX4_copyRectangle_42 : decode cX4_copyRectangle 42 = .ok (.getfield 24, 3) := by decide +kernel
theorem dX4_copyRectangle_45 : decode cX4_copyRectangle 45 = .ok (.iload_n 1, 1) := by decide +kernel
theorem dX4_copyRectangle_46 : decode cX4_copyRectangle 46 = .ok (.iaload, 1) := by decide +kernel
theorem dX4_copyRectangle_47 : decode cX4_copyRectangle 47 = .ok (.iastore, 1) := by decide +kernel
theorem dX4_copyRectangle_48 : decode cX4_copyRectangle 48 = .ok (.return_, 1) := by decide +kernel
theorem dX4_cover_0 : decode cX4_cover 0 = .ok (.aload_n 0, 1) := by decide +kernel
theorem dX4_cover_1 : decode cX4_cover 1 = .ok (.getfield 15, 3) := by decide +kernel
theorem dX4_cover_4 : decode cX4_cover 4 = .ok (.iload_n 1, 1) := by decide +kernel
theorem dX4_cover_5 : decode cX4_cover 5 = .ok (.aload_n 0, 1) := by decide +kernel
theorem dX4_cover_6 : decode cX4_cover 6 = .ok (.getfield 15, 3) := by decide +kernel
theorem dX4_cover_9 : decode cX4_cover 9 = .ok (.iload_n 1, 1) := by decide +kernel
theorem dX4_cover_10 : decode cX4_cover 10 = .ok (.iaload, 1) := by decide +kernel
theorem dX4_cover_11 : decode cX4_cover 11 = .ok (.aload_n 0, 1) := by decide +kernel
theorem dX4_cover_12 : decode cX4_cover 12 = .ok (.getfield 15, 3) := by decide +kernel
theorem dX4_cover_15 : decode cX4_cover 15 = .ok (.iload_n 2, 1) := by decide +kernel
theorem dX4_cover_16 : decode cX4_cover 16 = .ok (.iaload, 1) := by decide +kernel
theorem dX4_cover_17 : decode cX4_cover 17 = .ok (.invokestatic 80, 3) := by decide +kernel
theorem dX4_cover_20 : decode cX4_cover 20 = .ok (.iastore, 1) := by decide +kernel
theorem dX4_cover_21 : decode cX4_cover 21 = .ok (.aload_n 0, 1) := by decide +kernel
theorem dX4_cover_22 : decode cX4_cover 22 = .ok (.getfield 18, 3) := by decide +kernel
theorem dX4_cover_25 : decode cX4_cover 25 = .ok (.iload_n 1, 1) := by decide +kernel
theorem dX4_cover_26 : decode cX4_cover 26 = .ok (.aload_n 0, 1) := by decide +kernel
theorem dX4_cover_27 : decode cX4_cover 27 = .ok (.getfield 18, 3) := by decide +kernel
theorem dX4_cover_30 : decode cX4_cover 30 = .ok (.iload_n 1, 1) := by decide +kernel
theorem dX4_cover_31 : decode cX4_cover 31 = .ok (.iaload, 1) := by decide +kernel
theorem dX4_cover_32 : decode cX4_cover 32 = .ok (.aload_n 0, 1) := by decide +kernel
theorem dX4_cover_33 : decode cX4_cover 33 = .ok (.getfield 18, 3) := by decide +kernel
theorem dX4_cover_36 : decode cX4_cover 36 = .ok (.iload_n 2, 1) := by decide +kernel
theorem dX4_cover_37 : decode cX4_cover 37 = .ok (.iaload, 1) := by decide +kernel
theorem dX4_cover_38 : decode cX4_cover 38 = .ok (.invokestatic 80, 3) := by decide +kernel
theorem dX4_cover_41 : decode cX4_cover 41 = .ok (.iastore, 1) := by decide +kernel
theorem dX4_cover_42 : decode cX4_cover 42 = .ok (.aload_n 0, 1) := by decide +kernel
theorem dX4_cover_43 : decode cX4_cover 43 = .ok (.getfield 21, 3) := by decide +kernel
theorem dX4_cover_46 : decode cX4_cover 46 = .ok (.iload_n 1, 1) := by decide +kernel
theorem dX4_cover_47 : decode cX4_cover 47 = .ok (.aload_n 0, 1) := by decide +kernel
theorem dX4_cover_48 : decode cX4_cover 48 = .ok (.getfield 21, 3) := by decide +kernel
theorem dX4_cover_51 : decode cX4_cover 51 = .ok (.iload_n 1, 1) := by decide +kernel
theorem dX4_cover_52 : decode cX4_cover 52 = .ok (.iaload, 1) := by decide +kernel
theorem dX4_cover_53 : decode cX4_cover 53 = .ok (.aload_n 0, 1) := by decide +kernel
theorem dX4_cover_54 : decode cX4_cover 54 = .ok (.getfield 21, 3) := by decide +kernel
theorem dX4_cover_57 : decode cX4_cover 57 = .ok (.iload_n 2, 1) := by decide +kernel
theorem dX4_cover_58 : decode cX4_cover 58 = .ok (.iaload, 1) := by decide +kernel
theorem dX4_cover_59 : decode cX4_cover 59 = .ok (.invokestatic 74, 3) := by decide +kernel
theorem dX4_cover_62 : decode cX4_cover 62 = .ok (.iastore, 1) := by decide +kernel
theorem dX4_cover_63 : decode cX4_cover 63 = .ok (.aload_n 0, 1) := by decide +kernel
theorem dX4_cover_64 : decode cX4_cover 64 = .ok (.getfield 24, 3) := by decide +kernel
theorem dX4_cover_67 : decode cX4_cover 67 = .ok (.iload_n 1, 1) := by decide +kernel
theorem dX4_cover_68 : decode cX4_cover 68 = .ok (.aload_n 0, 1) := by decide +kernel
theorem dX4_cover_69 : decode cX4_cover 69 = .ok (.getfield 24, 3) := by decide +kernel
theorem dX4_cover_72 : decode cX4_cover 72 = .ok (.iload_n 1, 1) := by decide +kernel
theorem dX4_cover_73 : decode cX4_cover 73 = .ok (.iaload, 1) := by decide +kernel
theorem dX4_cover_74 : decode cX4_cover 74 = .ok (.aload_n 0, 1) := by decide +kernel
theorem dX4_cover_75 : decode cX4_cover 75 = .ok (.getfield 24, 3) := by decide +kernel
theorem dX4_cover_78 : decode cX4_cover 78 = .ok (.iload_n 2, 1) := by decide +kernel
theorem dX4_cover_79 : decode cX4_cover 79 = .ok (.iaload, 1) := by decide +kernel
theorem dX4_cover_80 : decode cX4_cover 80 = .ok (.invokestatic 74, 3) := by decide +kernel
theorem dX4_cover_83 : decode cX4_cover 83 = .ok (.iastore, 1) := by decide +kernel
theorem dX4_cover_84 : decode cX4_cover 84 = .ok (.return_, 1) := by decide +kernel
theorem dX4_squareTo_0 : decode cX4_squareTo 0 = .ok (.iconst 0, 1) := by decide +kernel
theorem dX4_squareTo_1 : decode cX4_squareTo 1 = .ok (.aload_n 0, 1) := by decide +kernel
theorem dX4_squareTo_2 : decode cX4_squareTo 2 = .ok (.getfield 15, 3) := by decide +kernel
theorem dX4_squareTo_5 : decode cX4_squareTo 5 = .ok (.iload_n 1, 1) := by decide +kernel
theorem dX4_squareTo_6 : decode cX4_squareTo 6 = .ok (.iaload, 1) := by decide +kernel
theorem dX4_squareTo_7 : decode cX4_squareTo 7 = .ok (.iload_n 2, 1) := by decide +kernel
theorem dX4_squareTo_8 : decode cX4_squareTo 8 = .ok (.isub, 1) := by decide +kernel
theorem dX4_squareTo_9 : decode cX4_squareTo 9 = .ok (.iload_n 2, 1) := by decide +kernel
theorem dX4_squareTo_10 : decode cX4_squareTo 10 = .ok (.aload_n 0, 1) := by decide +kernel
theorem dX4_squareTo_11 : decode cX4_squareTo 11 = .ok (.getfield 21, 3) := by decide +kernel
theorem dX4_squareTo_14 : decode cX4_squareTo 14 = .ok (.iload_n 1, 1) := by decide +kernel
theorem dX4_squareTo_15 : decode cX4_squareTo 15 = .ok (.iaload, 1) := by decide +kernel
theorem dX4_squareTo_16 : decode cX4_squareTo 16 = .ok (.isub, 1) := by decide +kernel
theorem dX4_squareTo_17 : decode cX4_squareTo 17 = .ok (.invokestatic 74, 3) := by decide +kernel
theorem dX4_squareTo_20 : decode cX4_squareTo 20 = .ok (.invokestatic 74, 3) := by decide +kernel
theorem dX4_squareTo_23 : decode cX4_squareTo 23 = .ok (.istore 4, 2) := by decide +kernel
theorem dX4_squareTo_25 : decode cX4_squareTo 25 = .ok (.iconst 0, 1) := by decide +kernel
theorem dX4_squareTo_26 : decode cX4_squareTo 26 = .ok (.aload_n 0, 1) := by decide +kernel
theorem dX4_squareTo_27 : decode cX4_squareTo 27 = .ok (.getfield 18, 3) := by decide +kernel
theorem dX4_squareTo_30 : decode cX4_squareTo 30 = .ok (.iload_n 1, 1) := by decide +kernel
theorem dX4_squareTo_31 : decode cX4_squareTo 31 = .ok (.iaload, 1) := by decide +kernel
theorem dX4_squareTo_32 : decode cX4_squareTo 32 = .ok (.iload_n 3, 1) := by decide +kernel
theorem dX4_squareTo_33 : decode cX4_squareTo 33 = .ok (.isub, 1) := by decide +kernel
theorem dX4_squareTo_34 : decode cX4_squareTo 34 = .ok (.iload_n 3, 1) := by decide +kernel
theorem dX4_squareTo_35 : decode cX4_squareTo 35 = .ok (.aload_n 0, 1) := by decide +kernel
theorem dX4_squareTo_36 : decode cX4_squareTo 36 = .ok (.getfield 24, 3) := by decide +kernel
theorem dX4_squareTo_39 : decode cX4_squareTo 39 = .ok (.iload_n 1, 1) := by decide +kernel
theorem dX4_squareTo_40 : decode cX4_squareTo 40 = .ok (.iaload, 1) := by decide +kernel
theorem dX4_squareTo_41 : decode cX4_squareTo 41 = .ok (.isub, 1) := by decide +kernel
theorem dX4_squareTo_42 : decode cX4_squareTo 42 = .ok (.invokestatic 74, 3) := by decide +kernel
theorem dX4_squareTo_45 : decode cX4_squareTo 45 = .ok (.invokestatic 74, 3) := by decide +kernel
theorem dX4_squareTo_48 : decode cX4_squareTo 48 = .ok (.istore 5, 2) := by decide +kernel
theorem dX4_squareTo_50 : decode cX4_squareTo 50 = .ok (.iload 4, 2) := by decide +kernel
theorem dX4_squareTo_52 : decode cX4_squareTo 52 = .ok (.iload 4, 2) := by decide +kernel
theorem dX4_squareTo_54 : decode cX4_squareTo 54 = .ok (.imul, 1) := by decide +kernel
theorem dX4_squareTo_55 : decode cX4_squareTo 55 = .ok (.iload 5, 2) := by decide +kernel
theorem dX4_squareTo_57 : decode cX4_squareTo 57 = .ok (.iload 5, 2) := by decide +kernel
theorem dX4_squareTo_59 : decode cX4_squareTo 59 = .ok (.imul, 1) := by decide +kernel
theorem dX4_squareTo_60 : decode cX4_squareTo 60 = .ok (.iadd, 1) := by decide +kernel
theorem dX4_squareTo_61 : decode cX4_squareTo 61 = .ok (.ireturn, 1) := by decide +kernel
theorem dX4_compareNames_0 : decode cX4_compareNames 0 = .ok (.aload_n 0, 1) := by decide +kernel
theorem dX4_compareNames_1 : decode cX4_compareNames 1 = .ok (.getfield 27, 3) := by decide +kernel
theorem dX4_compareNames_4 : decode cX4_compareNames 4 = .ok (.iload_n 1, 1) := by decide +kernel
theorem dX4_compareNames_5 : decode cX4_compareNames 5 = .ok (.iaload, 1) := by decide +kernel
theorem dX4_compareNames_6 : decode cX4_compareNames 6 = .ok (.aload_n 0, 1) := by decide +kernel
theorem dX4_compareNames_7 : decode cX4_compareNames 7 = .ok (.getfield 27, 3) := by decide +kernel
theorem dX4_compareNames_10 : decode cX4_compareNames 10 = .ok (.iload_n 2, 1) := by decide +kernel
theorem dX4_compareNames_11 : decode cX4_compareNames 11 = .ok (.iaload, 1) := by decide +kernel
theorem dX4_compareNames_12 : decode cX4_compareNames 12 = .ok (.if_icmp .eq 19, 3) := by decide +kernel
theorem dX4_compareNames_15 : decode cX4_compareNames 15 = .ok (.aload_n 0, 1) := by decide +kernel
theorem dX4_compareNames_16 : decode cX4_compareNames 16 = .ok (.getfield 27, 3) := by decide +kernel
theorem dX4_compareNames_19 : decode cX4_compareNames 19 = .ok (.iload_n 1, 1) := by decide +kernel
theorem dX4_compareNames_20 : decode cX4_compareNames 20 = .ok (.iaload, 1) := by decide +kernel
theorem dX4_compareNames_21 : decode cX4_compareNames 21 = .ok (.aload_n 0, 1) := by decide +kernel
theorem dX4_compareNames_22 : decode cX4_compareNames 22 = .ok (.getfield 27, 3) := by decide +kernel
theorem dX4_compareNames_25 : decode cX4_compareNames 25 = .ok (.iload_n 2, 1) := by decide +kernel
theorem dX4_compareNames_26 : decode cX4_compareNames 26 = .ok (.iaload, 1) := by decide +kernel
theorem dX4_compareNames_27 : decode cX4_compareNames 27 = .ok (.invokestatic 91, 3) := by decide +kernel
theorem dX4_compareNames_30 : decode cX4_compareNames 30 = .ok (.ireturn, 1) := by decide +kernel
theorem dX4_compareNames_31 : decode cX4_compareNames 31 = .ok (.aload_n 0, 1) := by decide +kernel
theorem dX4_compareNames_32 : decode cX4_compareNames 32 = .ok (.getfield 15, 3) := by decide +kernel
theorem dX4_compareNames_35 : decode cX4_compareNames 35 = .ok (.iload_n 1, 1) := by decide +kernel
theorem dX4_compareNames_36 : decode cX4_compareNames 36 = .ok (.iaload, 1) := by decide +kernel
theorem dX4_compareNames_37 : decode cX4_compareNames 37 = .ok (.aload_n 0, 1) := by decide +kernel
theorem dX4_compareNames_38 : decode cX4_compareNames 38 = .ok (.getfield 15, 3) := by decide +kernel
theorem dX4_compareNames_41 : decode cX4_compareNames 41 = .ok (.iload_n 2, 1) := by decide +kernel
theorem dX4_compareNames_42 : decode cX4_compareNames 42 = .ok (.iaload, 1) := by decide +kernel
theorem dX4_compareNames_43 : decode cX4_compareNames 43 = .ok (.if_icmp .eq 19, 3) := by decide +kernel
theorem dX4_compareNames_46 : decode cX4_compareNames 46 = .ok (.aload_n 0, 1) := by decide +kernel
theorem dX4_compareNames_47 : decode cX4_compareNames 47 = .ok (.getfield 15, 3) := by decide +kernel
theorem dX4_compareNames_50 : decode cX4_compareNames 50 = .ok (.iload_n 1, 1) := by decide +kernel
theorem dX4_compareNames_51 : decode cX4_compareNames 51 = .ok (.iaload, 1) := by decide +kernel
theorem dX4_compareNames_52 : decode cX4_compareNames 52 = .ok (.aload_n 0, 1) := by decide +kernel
theorem dX4_compareNames_53 : decode cX4_compareNames 53 = .ok (.getfield 15, 3) := by decide +kernel
theorem dX4_compareNames_56 : decode cX4_compareNames 56 = .ok (.iload_n 2, 1) := by decide +kernel
theorem dX4_compareNames_57 : decode cX4_compareNames 57 = .ok (.iaload, 1) := by decide +kernel
theorem dX4_compareNames_58 : decode cX4_compareNames 58 = .ok (.invokestatic 91, 3) := by decide +kernel
theorem dX4_compareNames_61 : decode cX4_compareNames 61 = .ok (.ireturn, 1) := by decide +kernel
theorem dX4_compareNames_62 : decode cX4_compareNames 62 = .ok (.aload_n 0, 1) := by decide +kernel
theorem dX4_compareNames_63 : decode cX4_compareNames 63 = .ok (.getfield 18, 3) := by decide +kernel
theorem dX4_compareNames_66 : decode cX4_compareNames 66 = .ok (.iload_n 1, 1) := by decide +kernel
theorem dX4_compareNames_67 : decode cX4_compareNames 67 = .ok (.iaload, 1) := by decide +kernel
theorem dX4_compareNames_68 : decode cX4_compareNames 68 = .ok (.aload_n 0, 1) := by decide +kernel
theorem dX4_compareNames_69 : decode cX4_compareNames 69 = .ok (.getfield 18, 3) := by decide +kernel
theorem dX4_compareNames_72 : decode cX4_compareNames 72 = .ok (.iload_n 2, 1) := by decide +kernel
theorem dX4_compareNames_73 : decode cX4_compareNames 73 = .ok (.iaload, 1) := by decide +kernel
theorem dX4_compareNames_74 : decode cX4_compareNames 74 = .ok (.if_icmp .eq 19, 3) := by decide +kernel
theorem dX4_compareNames_77 : decode cX4_compareNames 77 = .ok (.aload_n 0, 1) := by decide +kernel
theorem dX4_compareNames_78 : decode cX4_compareNames 78 = .ok (.getfield 18, 3) := by decide +kernel
theorem dX4_compareNames_81 : decode cX4_compareNames 81 = .ok (.iload_n 1, 1) := by decide +kernel
theorem dX4_compareNames_82 : decode cX4_compareNames 82 = .ok (.iaload, 1) := by decide +kernel
theorem dX4_compareNames_83 : decode cX4_compareNames 83 = .ok (.aload_n 0, 1) := by decide +kernel
theorem dX4_compareNames_84 : decode cX4_compareNames 84 = .ok (.getfield 18, 3) := by decide +kernel
theorem dX4_compareNames_87 : decode cX4_compareNames 87 = .ok (.iload_n 2, 1) := by decide +kernel
theorem dX4_compareNames_88 : decode cX4_compareNames 88 = .ok (.iaload, 1) := by decide +kernel
theorem dX4_compareNames_89 : decode cX4_compareNames 89 = .ok (.invokestatic 91, 3) := by decide +kernel
theorem dX4_compareNames_92 : decode cX4_compareNames 92 = .ok (.ireturn, 1) := by decide +kernel
theorem dX4_compareNames_93 : decode cX4_compareNames 93 = .ok (.aload_n 0, 1) := by decide +kernel
theorem dX4_compareNames_94 : decode cX4_compareNames 94 = .ok (.getfield 21, 3) := by decide +kernel
theorem dX4_compareNames_97 : decode cX4_compareNames 97 = .ok (.iload_n 1, 1) := by decide +kernel
theorem dX4_compareNames_98 : decode cX4_compareNames 98 = .ok (.iaload, 1) := by decide +kernel
theorem dX4_compareNames_99 : decode cX4_compareNames 99 = .ok (.aload_n 0, 1) := by decide +kernel
theorem dX4_compareNames_100 : decode cX4_compareNames 100 = .ok (.getfield 21, 3) := by decide +kernel
theorem dX4_compareNames_103 : decode cX4_compareNames 103 = .ok (.iload_n 2, 1) := by decide +kernel
theorem dX4_compareNames_104 : decode cX4_compareNames 104 = .ok (.iaload, 1) := by decide +kernel
theorem dX4_compareNames_105 : decode cX4_compareNames 105 = .ok (.if_icmp .eq 19, 3) := by decide +kernel
theorem dX4_compareNames_108 : decode cX4_compareNames 108 = .ok (.aload_n 0, 1) := by decide +kernel
theorem dX4_compareNames_109 : decode cX4_compareNames 109 = .ok (.getfield 21, 3) := by decide +kernel
theorem dX4_compareNames_112 : decode cX4_compareNames 112 = .ok (.iload_n 1, 1) := by decide +kernel
theorem dX4_compareNames_113 : decode cX4_compareNames 113 = .ok (.iaload, 1) := by decide +kernel
theorem dX4_compareNames_114 : decode cX4_compareNames 114 = .ok (.aload_n 0, 1) := by decide +kernel
theorem dX4_compareNames_115 : decode cX4_compareNames 115 = .ok (.getfield 21, 3) := by decide +kernel
theorem dX4_compareNames_118 : decode cX4_compareNames 118 = .ok (.iload_n 2, 1) := by decide +kernel
theorem dX4_compareNames_119 : decode cX4_compareNames 119 = .ok (.iaload, 1) := by decide +kernel
theorem dX4_compareNames_120 : decode cX4_compareNames 120 = .ok (.invokestatic 91, 3) := by decide +kernel
theorem dX4_compareNames_123 : decode cX4_compareNames 123 = .ok (.ireturn, 1) := by decide +kernel
theorem dX4_compareNames_124 : decode cX4_compareNames 124 = .ok (.aload_n 0, 1) := by decide +kernel
theorem dX4_compareNames_125 : decode cX4_compareNames 125 = .ok (.getfield 24, 3) := by decide +kernel
theorem dX4_compareNames_128 : decode cX4_compareNames 128 = .ok (.iload_n 1, 1) := by decide +kernel
theorem dX4_compareNames_129 : decode cX4_compareNames 129 = .ok (.iaload, 1) := by decide +kernel
theorem dX4_compareNames_130 : decode cX4_compareNames 130 = .ok (.aload_n 0, 1) := by decide +kernel
theorem dX4_compareNames_131 : decode cX4_compareNames 131 = .ok (.getfield 24, 3) := by decide +kernel
theorem dX4_compareNames_134 : decode cX4_compareNames 134 = .ok (.iload_n 2, 1) := by decide +kernel
theorem dX4_compareNames_135 : decode cX4_compareNames 135 = .ok (.iaload, 1) := by decide +kernel
theorem dX4_compareNames_136 : decode cX4_compareNames 136 = .ok (.invokestatic 91, 3) := by decide +kernel
theorem dX4_compareNames_139 : decode cX4_compareNames 139 = .ok (.ireturn, 1) := by decide +kernel
theorem dX4_entryLike_0 : decode cX4_entryLike 0 = .ok (.iconst 0, 1) := by decide +kernel
theorem dX4_entryLike_1 : decode cX4_entryLike 1 = .ok (.istore_n 2, 1) := by decide +kernel
theorem dX4_entryLike_2 : decode cX4_entryLike 2 = .ok (.iload_n 2, 1) := by decide +kernel
theorem dX4_entryLike_3 : decode cX4_entryLike 3 = .ok (.aload_n 0, 1) := by decide +kernel
theorem dX4_entryLike_4 : decode cX4_entryLike 4 = .ok (.getfield 58, 3) := by decide +kernel
theorem dX4_entryLike_7 : decode cX4_entryLike 7 = .ok (.if_icmp .ge 28, 3) := by decide +kernel
theorem dX4_entryLike_10 : decode cX4_entryLike 10 = .ok (.aload_n 0, 1) := by decide +kernel
theorem dX4_entryLike_11 : decode cX4_entryLike 11 = .ok (.iload_n 2, 1) := by decide +kernel
theorem dX4_entryLike_12 : decode cX4_entryLike 12 = .ok (.invokevirtual 96, 3) := by decide +kernel
theorem dX4_entryLike_15 : decode cX4_entryLike 15 = .ok (.ifCond .eq 14, 3) := by decide +kernel
theorem dX4_entryLike_18 : decode cX4_entryLike 18 = .ok (.aload_n 0, 1) := by decide +kernel
theorem dX4_entryLike_19 : decode cX4_entryLike 19 = .ok (.iload_n 2, 1) := by decide +kernel
theorem dX4_entryLike_20 : decode cX4_entryLike 20 = .ok (.iload_n 1, 1) := by decide +kernel
theorem dX4_entryLike_21 : decode cX4_entryLike 21 = .ok (.invokevirtual 100, 3) := by decide +kernel
theorem dX4_entryLike_24 : decode cX4_entryLike 24 = .ok (.ifCond .eq 5, 3) := by decide +kernel
theorem dX4_entryLike_27 : decode cX4_entryLike 27 = .ok (.iload_n 2, 1) := by decide +kernel
theorem dX4_entryLike_28 : decode cX4_entryLike 28 = .ok (.ireturn, 1) := by decide +kernel
theorem dX4_entryLike_29 : decode cX4_entryLike 29 = .ok (.iinc 2 1, 3) := by decide +kernel
theorem dX4_entryLike_32 : decode cX4_entryLike 32 = .ok (.goto (-30), 3) := by decide +kernel
theorem dX4_entryLike_35 : decode cX4_entryLike 35 = .ok (.iconst (-1), 1) := by decide +kernel
theorem dX4_entryLike_36 : decode cX4_entryLike 36 = .ok (.ireturn, 1) := by decide +kernel
theorem dX4_entriesMeeting_0 : decode cX4_entriesMeeting 0 = .ok (.iconst 0, 1) := by decide +kernel
theorem dX4_entriesMeeting_1 : decode cX4_entriesMeeting 1 = .ok (.istore_n 3, 1) := by decide +kernel
theorem dX4_entriesMeeting_2 : decode cX4_entriesMeeting 2 = .ok (.iload_n 2, 1) := by decide +kernel
theorem dX4_entriesMeeting_3 : decode cX4_entriesMeeting 3 = .ok (.istore 4, 2) := by decide +kernel
theorem dX4_entriesMeeting_5 : decode cX4_entriesMeeting 5 = .ok (.iload 4, 2) := by decide +kernel
theorem dX4_entriesMeeting_7 : decode cX4_entriesMeeting 7 = .ok (.aload_n 0, 1) := by decide +kernel
theorem dX4_entriesMeeting_8 : decode cX4_entriesMeeting 8 = .ok (.getfield 58, 3) := by decide +kernel
theorem dX4_entriesMeeting_11 : decode cX4_entriesMeeting 11 = .ok (.if_icmp .ge 31, 3) := by decide +kernel
theorem dX4_entriesMeeting_14 : decode cX4_entriesMeeting 14 = .ok (.aload_n 0, 1) := by decide +kernel
theorem dX4_entriesMeeting_15 : decode cX4_entriesMeeting 15 = .ok (.iload 4, 2) := by decide +kernel
theorem dX4_entriesMeeting_17 : decode cX4_entriesMeeting 17 = .ok (.invokevirtual 96, 3) := by decide +kernel
theorem dX4_entriesMeeting_20 : decode cX4_entriesMeeting 20 = .ok (.ifCond .eq 16, 3) := by decide +kernel
theorem dX4_entriesMeeting_23 : decode cX4_entriesMeeting 23 = .ok (.aload_n 0, 1) := by decide +kernel
theorem dX4_entriesMeeting_24 : decode cX4_entriesMeeting 24 = .ok (.iload 4, 2) := by decide +kernel
theorem dX4_entriesMeeting_26 : decode cX4_entriesMeeting 26 = .ok (.iload_n 1, 1) := by decide +kernel
theorem dX4_entriesMeeting_27 : decode cX4_entriesMeeting 27 = .ok (.invokevirtual 103, 3) := by decide +kernel
theorem dX4_entriesMeeting_30 : decode cX4_entriesMeeting 30 = .ok (.ifCond .eq 6, 3) := by decide +kernel
theorem dX4_entriesMeeting_33 : decode cX4_entriesMeeting 33 = .ok (.iinc 3 1, 3) := by decide +kernel
theorem dX4_entriesMeeting_36 : decode cX4_entriesMeeting 36 = .ok (.iinc 4 1, 3) := by decide +kernel
theorem dX4_entriesMeeting_39 : decode cX4_entriesMeeting 39 = .ok (.goto (-34), 3) := by decide +kernel
theorem dX4_entriesMeeting_42 : decode cX4_entriesMeeting 42 = .ok (.iload_n 3, 1) := by decide +kernel
theorem dX4_entriesMeeting_43 : decode cX4_entriesMeeting 43 = .ok (.ireturn, 1) := by decide +kernel
theorem dX4_thingAt_0 : decode cX4_thingAt 0 = .ok (.iload_n 1, 1) := by decide +kernel
theorem dX4_thingAt_1 : decode cX4_thingAt 1 = .ok (.sipush 400, 3) := by decide +kernel
theorem dX4_thingAt_4 : decode cX4_thingAt 4 = .ok (.isub, 1) := by decide +kernel
theorem dX4_thingAt_5 : decode cX4_thingAt 5 = .ok (.aload_n 0, 1) := by decide +kernel
theorem dX4_thingAt_6 : decode cX4_thingAt 6 = .ok (.getfield 43, 3) := by decide +kernel
theorem dX4_thingAt_9 : decode cX4_thingAt 9 = .ok (.imul, 1) := by decide +kernel
theorem dX4_thingAt_10 : decode cX4_thingAt 10 = .ok (.iload_n 2, 1) := by decide +kernel
theorem dX4_thingAt_11 : decode cX4_thingAt 11 = .ok (.iadd, 1) := by decide +kernel
theorem dX4_thingAt_12 : decode cX4_thingAt 12 = .ok (.istore_n 3, 1) := by decide +kernel
theorem dX4_thingAt_13 : decode cX4_thingAt 13 = .ok (.iload_n 3, 1) := by decide +kernel
theorem dX4_thingAt_14 : decode cX4_thingAt 14 = .ok (.ifCond .lt 21, 3) := by decide +kernel
theorem dX4_thingAt_17 : decode cX4_thingAt 17 = .ok (.iload_n 3, 1) := by decide +kernel
theorem dX4_thingAt_18 : decode cX4_thingAt 18 = .ok (.aload_n 0, 1) := by decide +kernel
theorem dX4_thingAt_19 : decode cX4_thingAt 19 = .ok (.getfield 46, 3) := by decide +kernel
theorem dX4_thingAt_22 : decode cX4_thingAt 22 = .ok (.arraylength, 1) := by decide +kernel
theorem dX4_thingAt_23 : decode cX4_thingAt 23 = .ok (.if_icmp .ge 12, 3) := by decide +kernel
theorem dX4_thingAt_26 : decode cX4_thingAt 26 = .ok (.aload_n 0, 1) := by decide +kernel
theorem dX4_thingAt_27 : decode cX4_thingAt 27 = .ok (.getfield 46, 3) := by decide +kernel
theorem dX4_thingAt_30 : decode cX4_thingAt 30 = .ok (.iload_n 3, 1) := by decide +kernel
theorem dX4_thingAt_31 : decode cX4_thingAt 31 = .ok (.iaload, 1) := by decide +kernel
theorem dX4_thingAt_32 : decode cX4_thingAt 32 = .ok (.goto 6, 3) := by decide +kernel
theorem dX4_thingAt_35 : decode cX4_thingAt 35 = .ok (.sipush 806, 3) := by decide +kernel
theorem dX4_thingAt_38 : decode cX4_thingAt 38 = .ok (.ireturn, 1) := by decide +kernel
theorem dX4_placeAt_0 : decode cX4_placeAt 0 = .ok (.iload_n 1, 1) := by decide +kernel
theorem dX4_placeAt_1 : decode cX4_placeAt 1 = .ok (.sipush 400, 3) := by decide +kernel
theorem dX4_placeAt_4 : decode cX4_placeAt 4 = .ok (.isub, 1) := by decide +kernel
theorem dX4_placeAt_5 : decode cX4_placeAt 5 = .ok (.aload_n 0, 1) := by decide +kernel
theorem dX4_placeAt_6 : decode cX4_placeAt 6 = .ok (.getfield 43, 3) := by decide +kernel
theorem dX4_placeAt_9 : decode cX4_placeAt 9 = .ok (.imul, 1) := by decide +kernel
theorem dX4_placeAt_10 : decode cX4_placeAt 10 = .ok (.iload_n 2, 1) := by decide +kernel
theorem dX4_placeAt_11 : decode cX4_placeAt 11 = .ok (.iadd, 1) := by decide +kernel
theorem dX4_placeAt_12 : decode cX4_placeAt 12 = .ok (.istore 4, 2) := by decide +kernel
theorem dX4_placeAt_14 : decode cX4_placeAt 14 = .ok (.iload 4, 2) := by decide +kernel
theorem dX4_placeAt_16 : decode cX4_placeAt 16 = .ok (.ifCond .lt 21, 3) := by decide +kernel
theorem dX4_placeAt_19 : decode cX4_placeAt 19 = .ok (.iload 4, 2) := by decide +kernel
theorem dX4_placeAt_21 : decode cX4_placeAt 21 = .ok (.aload_n 0, 1) := by decide +kernel
theorem dX4_placeAt_22 : decode cX4_placeAt 22 = .ok (.getfield 46, 3) := by decide +kernel
theorem dX4_placeAt_25 : decode cX4_placeAt 25 = .ok (.arraylength, 1) := by decide +kernel
theorem dX4_placeAt_26 : decode cX4_placeAt 26 = .ok (.if_icmp .ge 11, 3) := by decide +kernel
theorem dX4_placeAt_29 : decode cX4_placeAt 29 = .ok (.aload_n 0, 1) := by decide +kernel
theorem dX4_placeAt_30 : decode cX4_placeAt 30 = .ok (.getfield 46, 3) := by decide +kernel
theorem dX4_placeAt_33 : decode cX4_placeAt 33 = .ok (.iload 4, 2) := by decide +kernel
theorem dX4_placeAt_35 : decode cX4_placeAt 35 = .ok (.iload_n 3, 1) := by decide +kernel
theorem dX4_placeAt_36 : decode cX4_placeAt 36 = .ok (.iastore, 1) := by decide +kernel
theorem dX4_placeAt_37 : decode cX4_placeAt 37 = .ok (.return_, 1) := by decide +kernel
theorem dX4_indexIn_0 : decode cX4_indexIn 0 = .ok (.iconst 0, 1) := by decide +kernel
theorem dX4_indexIn_1 : decode cX4_indexIn 1 = .ok (.istore_n 3, 1) := by decide +kernel
theorem dX4_indexIn_2 : decode cX4_indexIn 2 = .ok (.iload_n 3, 1) := by decide +kernel
theorem dX4_indexIn_3 : decode cX4_indexIn 3 = .ok (.aload_n 0, 1) := by decide +kernel
theorem dX4_indexIn_4 : decode cX4_indexIn 4 = .ok (.getfield 33, 3) := by decide +kernel
theorem dX4_indexIn_7 : decode cX4_indexIn 7 = .ok (.iload_n 1, 1) := by decide +kernel
theorem dX4_indexIn_8 : decode cX4_indexIn 8 = .ok (.iaload, 1) := by decide +kernel
theorem dX4_indexIn_9 : decode cX4_indexIn 9 = .ok (.if_icmp .ge 19, 3) := by decide +kernel
theorem dX4_indexIn_12 : decode cX4_indexIn 12 = .ok (.aload_n 0, 1) := by decide +kernel
theorem dX4_indexIn_13 : decode cX4_indexIn 13 = .ok (.iload_n 1, 1) := by decide +kernel
theorem dX4_indexIn_14 : decode cX4_indexIn 14 = .ok (.iload_n 3, 1) := by decide +kernel
theorem dX4_indexIn_15 : decode cX4_indexIn 15 = .ok (.invokevirtual 106, 3) := by decide +kernel
theorem dX4_indexIn_18 : decode cX4_indexIn 18 = .ok (.iload_n 2, 1) := by decide +kernel
theorem dX4_indexIn_19 : decode cX4_indexIn 19 = .ok (.if_icmp .eq 9, 3) := by decide +kernel
theorem dX4_indexIn_22 : decode cX4_indexIn 22 = .ok (.iinc 3 1, 3) := by decide +kernel
theorem dX4_indexIn_25 : decode cX4_indexIn 25 = .ok (.goto (-23), 3) := by decide +kernel
theorem dX4_indexIn_28 : decode cX4_indexIn 28 = .ok (.iload_n 3, 1) := by decide +kernel
theorem dX4_indexIn_29 : decode cX4_indexIn 29 = .ok (.ireturn, 1) := by decide +kernel
theorem dX4_attach_0 : decode cX4_attach 0 = .ok (.aload_n 0, 1) := by decide +kernel
theorem dX4_attach_1 : decode cX4_attach 1 = .ok (.getfield 33, 3) := by decide +kernel
theorem dX4_attach_4 : decode cX4_attach 4 = .ok (.iload_n 1, 1) := by decide +kernel
theorem dX4_attach_5 : decode cX4_attach 5 = .ok (.iaload, 1) := by decide +kernel
theorem dX4_attach_6 : decode cX4_attach 6 = .ok (.ifCond .ne 12, 3) := by decide +kernel
theorem dX4_attach_9 : decode cX4_attach 9 = .ok (.aload_n 0, 1) := by decide +kernel
theorem dX4_attach_10 : decode cX4_attach 10 = .ok (.iload_n 2, 1) := by decide +kernel
theorem dX4_attach_11 : decode cX4_attach 11 = .ok (.iload_n 1, 1) := by decide +kernel
theorem dX4_attach_12 : decode cX4_attach 12 = .ok (.invokevirtual 70, 3) := by decide +kernel
theorem dX4_attach_15 : decode cX4_attach 15 = .ok (.goto 9, 3) := by decide +kernel
theorem dX4_attach_18 : decode cX4_attach 18 = .ok (.aload_n 0, 1) := by decide +kernel
theorem dX4_attach_19 : decode cX4_attach 19 = .ok (.iload_n 1, 1) := by decide +kernel
theorem dX4_attach_20 : decode cX4_attach 20 = .ok (.iload_n 2, 1) := by decide +kernel
theorem dX4_attach_21 : decode cX4_attach 21 = .ok (.invokevirtual 109, 3) := by decide +kernel
theorem dX4_attach_24 : decode cX4_attach 24 = .ok (.aload_n 0, 1) := by decide +kernel
theorem dX4_attach_25 : decode cX4_attach 25 = .ok (.iload_n 1, 1) := by decide +kernel
theorem dX4_attach_26 : decode cX4_attach 26 = .ok (.aload_n 0, 1) := by decide +kernel
theorem dX4_attach_27 : decode cX4_attach 27 = .ok (.getfield 33, 3) := by decide +kernel
theorem dX4_attach_30 : decode cX4_attach 30 = .ok (.iload_n 1, 1) := by decide +kernel
theorem dX4_attach_31 : decode cX4_attach 31 = .ok (.iaload, 1) := by decide +kernel
theorem dX4_attach_32 : decode cX4_attach 32 = .ok (.iload_n 2, 1) := by decide +kernel
theorem dX4_attach_33 : decode cX4_attach 33 = .ok (.invokevirtual 112, 3) := by decide +kernel
theorem dX4_attach_36 : decode cX4_attach 36 = .ok (.return_, 1) := by decide +kernel
theorem dX4_attachBehind_0 : decode cX4_attachBehind 0 = .ok (.aload_n 0, 1) := by decide +kernel
theorem dX4_attachBehind_1 : decode cX4_attachBehind 1 = .ok (.getfield 30, 3) := by decide +kernel
theorem dX4_attachBehind_4 : decode cX4_attachBehind 4 = .ok (.iload_n 1, 1) := by decide +kernel
theorem dX4_attachBehind_5 : decode cX4_attachBehind 5 = .ok (.iaload, 1) := by decide +kernel
theorem dX4_attachBehind_6 : decode cX4_attachBehind 6 = .ok (.istore_n 3, 1) := by decide +kernel
theorem dX4_attachBehind_7 : decode cX4_attachBehind 7 = .ok (.iload_n 3, 1) := by decide +kernel
theorem dX4_attachBehind_8 : decode cX4_attachBehind 8 = .ok (.iconst (-1), 1) := by decide +kernel
theorem dX4_attachBehind_9 : decode cX4_attachBehind 9 = .ok (.if_icmp .eq 17, 3) := by decide +kernel
theorem dX4_attachBehind_12 : decode cX4_attachBehind 12 = .ok (.aload_n 0, 1) := by decide +kernel
theorem dX4_attachBehind_13 : decode cX4_attachBehind 13 = .ok (.iload_n 3, 1) := by decide +kernel
theorem dX4_attachBehind_14 : decode cX4_attachBehind 14 = .ok (.aload_n 0, 1) := by decide +kernel
theorem dX4_attachBehind_15 : decode cX4_attachBehind 15 = .ok (.iload_n 3, 1) := by decide +kernel
theorem dX4_attachBehind_16 : decode cX4_attachBehind 16 = .ok (.iload_n 1, 1) := by decide +kernel
theorem dX4_attachBehind_17 : decode cX4_attachBehind 17 = .ok (.invokevirtual 116, 3) := by decide +kernel
theorem dX4_attachBehind_20 : decode cX4_attachBehind 20 = .ok (.iconst 1, 1) := by decide +kernel
theorem dX4_attachBehind_21 : decode cX4_attachBehind 21 = .ok (.iadd, 1) := by decide +kernel
theorem dX4_attachBehind_22 : decode cX4_attachBehind 22 = .ok (.iload_n 2, 1) := by decide +kernel
theorem dX4_attachBehind_23 : decode cX4_attachBehind 23 = .ok (.invokevirtual 112, 3) := by decide +kernel
theorem dX4_attachBehind_26 : decode cX4_attachBehind 26 = .ok (.return_, 1) := by decide +kernel
theorem dX4_attachAt_0 : decode cX4_attachAt 0 = .ok (.aload_n 0, 1) := by decide +kernel
theorem dX4_attachAt_1 : decode cX4_attachAt 1 = .ok (.getfield 33, 3) := by decide +kernel
theorem dX4_attachAt_4 : decode cX4_attachAt 4 = .ok (.iload_n 1, 1) := by decide +kernel
theorem dX4_attachAt_5 : decode cX4_attachAt 5 = .ok (.iaload, 1) := by decide +kernel
theorem dX4_attachAt_6 : decode cX4_attachAt 6 = .ok (.istore 4, 2) := by decide +kernel
theorem dX4_attachAt_8 : decode cX4_attachAt 8 = .ok (.iload 4, 2) := by decide +kernel
theorem dX4_attachAt_10 : decode cX4_attachAt 10 = .ok (.iload_n 2, 1) := by decide +kernel
theorem dX4_attachAt_11 : decode cX4_attachAt 11 = .ok (.if_icmp .le 25, 3) := by decide +kernel
theorem dX4_attachAt_14 : decode cX4_attachAt 14 = .ok (.aload_n 0, 1) := by decide +kernel
theorem dX4_attachAt_15 : decode cX4_attachAt 15 = .ok (.iload_n 1, 1) := by decide +kernel
theorem dX4_attachAt_16 : decode cX4_attachAt 16 = .ok (.iload 4, 2) := by decide +kernel
theorem dX4_attachAt_18 : decode cX4_attachAt 18 = .ok (.aload_n 0, 1) := by decide +kernel
theorem dX4_attachAt_19 : decode cX4_attachAt 19 = .ok (.iload_n 1, 1) := by decide +kernel
theorem dX4_attachAt_20 : decode cX4_attachAt 20 = .ok (.iload 4, 2) := by decide +kernel
theorem dX4_attachAt_22 : decode cX4_attachAt 22 = .ok (.iconst 1, 1) := by decide +kernel
theorem dX4_attachAt_23 : decode cX4_attachAt 23 = .ok (.isub, 1) := by decide +kernel
theorem dX4_attachAt_24 : decode cX4_attachAt 24 = .ok (.invokevirtual 106, 3) := by decide +kernel
theorem dX4_attachAt_27 : decode cX4_attachAt 27 = .ok (.invokevirtual 119, 3) := by decide +kernel
theorem dX4_attachAt_30 : decode cX4_attachAt 30 = .ok (.iinc 4 (-1), 3) := by decide +kernel
theorem dX4_attachAt_33 : decode cX4_attachAt 33 = .ok (.goto (-25), 3) := by decide +kernel
theorem dX4_attachAt_36 : decode cX4_attachAt 36 = .ok (.aload_n 0, 1) := by decide +kernel
theorem dX4_attachAt_37 : decode cX4_attachAt 37 = .ok (.iload_n 1, 1) := by decide +kernel
theorem dX4_attachAt_38 : decode cX4_attachAt 38 = .ok (.iload_n 2, 1) := by decide +kernel
theorem dX4_attachAt_39 : decode cX4_attachAt 39 = .ok (.iload_n 3, 1) := by decide +kernel
theorem dX4_attachAt_40 : decode cX4_attachAt 40 = .ok (.invokevirtual 119, 3) := by decide +kernel
theorem dX4_attachAt_43 : decode cX4_attachAt 43 = .ok (.aload_n 0, 1) := by decide +kernel
theorem dX4_attachAt_44 : decode cX4_attachAt 44 = .ok (.getfield 33, 3) := by decide +kernel
theorem dX4_attachAt_47 : decode cX4_attachAt 47 = .ok (.iload_n 1, 1) := by decide +kernel
theorem dX4_attachAt_48 : decode cX4_attachAt 48 = .ok (.dup2, 1) := by decide +kernel
theorem dX4_attachAt_49 : decode cX4_attachAt 49 = .ok (.iaload, 1) := by decide +kernel
theorem dX4_attachAt_50 : decode cX4_attachAt 50 = .ok (.iconst 1, 1) := by decide +kernel
theorem dX4_attachAt_51 : decode cX4_attachAt 51 = .ok (.iadd, 1) := by decide +kernel
theorem dX4_attachAt_52 : decode cX4_attachAt 52 = .ok (.iastore, 1) := by decide +kernel
theorem dX4_attachAt_53 : decode cX4_attachAt 53 = .ok (.aload_n 0, 1) := by decide +kernel
theorem dX4_attachAt_54 : decode cX4_attachAt 54 = .ok (.getfield 30, 3) := by decide +kernel
theorem dX4_attachAt_57 : decode cX4_attachAt 57 = .ok (.iload_n 3, 1) := by decide +kernel
theorem dX4_attachAt_58 : decode cX4_attachAt 58 = .ok (.iload_n 1, 1) := by decide +kernel
theorem dX4_attachAt_59 : decode cX4_attachAt 59 = .ok (.iastore, 1) := by decide +kernel
theorem dX4_attachAt_60 : decode cX4_attachAt 60 = .ok (.return_, 1) := by decide +kernel
theorem dX4_detach_0 : decode cX4_detach 0 = .ok (.aload_n 0, 1) := by decide +kernel
theorem dX4_detach_1 : decode cX4_detach 1 = .ok (.getfield 30, 3) := by decide +kernel
theorem dX4_detach_4 : decode cX4_detach 4 = .ok (.iload_n 1, 1) := by decide +kernel
theorem dX4_detach_5 : decode cX4_detach 5 = .ok (.iaload, 1) := by decide +kernel
theorem dX4_detach_6 : decode cX4_detach 6 = .ok (.istore_n 2, 1) := by decide +kernel
theorem dX4_detach_7 : decode cX4_detach 7 = .ok (.iload_n 2, 1) := by decide +kernel
theorem dX4_detach_8 : decode cX4_detach 8 = .ok (.iconst (-1), 1) := by decide +kernel
theorem dX4_detach_9 : decode cX4_detach 9 = .ok (.if_icmp .eq 12, 3) := by decide +kernel
theorem dX4_detach_12 : decode cX4_detach 12 = .ok (.aload_n 0, 1) := by decide +kernel
theorem dX4_detach_13 : decode cX4_detach 13 = .ok (.getfield 33, 3) := by decide +kernel
theorem dX4_detach_16 : decode cX4_detach 16 = .ok (.iload_n 2, 1) := by decide +kernel
theorem dX4_detach_17 : decode cX4_detach 17 = .ok (.iaload, 1) := by decide +kernel
theorem dX4_detach_18 : decode cX4_detach 18 = .ok (.ifCond .ne 4, 3) := by decide +kernel
theorem dX4_detach_21 : decode cX4_detach 21 = .ok (.return_, 1) := by decide +kernel
theorem dX4_detach_22 : decode cX4_detach 22 = .ok (.aload_n 0, 1) := by decide +kernel
theorem dX4_detach_23 : decode cX4_detach 23 = .ok (.iload_n 2, 1) := by decide +kernel
theorem dX4_detach_24 : decode cX4_detach 24 = .ok (.iload_n 1, 1) := by decide +kernel
theorem dX4_detach_25 : decode cX4_detach 25 = .ok (.invokevirtual 116, 3) := by decide +kernel
theorem dX4_detach_28 : decode cX4_detach 28 = .ok (.iconst 1, 1) := by decide +kernel
theorem dX4_detach_29 : decode cX4_detach 29 = .ok (.iadd, 1) := by decide +kernel
theorem dX4_detach_30 : decode cX4_detach 30 = .ok (.istore_n 3, 1) := by decide +kernel
theorem dX4_detach_31 : decode cX4_detach 31 = .ok (.iload_n 3, 1) := by decide +kernel
theorem dX4_detach_32 : decode cX4_detach 32 = .ok (.aload_n 0, 1) := by decide +kernel
theorem dX4_detach_33 : decode cX4_detach 33 = .ok (.getfield 33, 3) := by decide +kernel
theorem dX4_detach_36 : decode cX4_detach 36 = .ok (.iload_n 2, 1) := by decide +kernel
theorem dX4_detach_37 : decode cX4_detach 37 = .ok (.iaload, 1) := by decide +kernel
theorem dX4_detach_38 : decode cX4_detach 38 = .ok (.if_icmp .ge 23, 3) := by decide +kernel
theorem dX4_detach_41 : decode cX4_detach 41 = .ok (.aload_n 0, 1) := by decide +kernel
theorem dX4_detach_42 : decode cX4_detach 42 = .ok (.iload_n 2, 1) := by decide +kernel
theorem dX4_detach_43 : decode cX4_detach 43 = .ok (.iload_n 3, 1) := by decide +kernel
theorem dX4_detach_44 : decode cX4_detach 44 = .ok (.iconst 1, 1) := by decide +kernel
theorem dX4_detach_45 : decode cX4_detach 45 = .ok (.isub, 1) := by decide +kernel
theorem dX4_detach_46 : decode cX4_detach 46 = .ok (.aload_n 0, 1) := by decide +kernel
theorem dX4_detach_47 : decode cX4_detach 47 = .ok (.iload_n 2, 1) := by decide +kernel
theorem dX4_detach_48 : decode cX4_detach 48 = .ok (.iload_n 3, 1) := by decide +kernel
theorem dX4_detach_49 : decode cX4_detach 49 = .ok (.invokevirtual 106, 3) := by decide +kernel
theorem dX4_detach_52 : decode cX4_detach 52 = .ok (.invokevirtual 119, 3) := by decide +kernel
theorem dX4_detach_55 : decode cX4_detach 55 = .ok (.iinc 3 1, 3) := by decide +kernel
theorem dX4_detach_58 : decode cX4_detach 58 = .ok (.goto (-27), 3) := by decide +kernel
theorem dX4_detach_61 : decode cX4_detach 61 = .ok (.aload_n 0, 1) := by decide +kernel
theorem dX4_detach_62 : decode cX4_detach 62 = .ok (.getfield 33, 3) := by decide +kernel
theorem dX4_detach_65 : decode cX4_detach 65 = .ok (.iload_n 2, 1) := by decide +kernel
theorem dX4_detach_66 : decode cX4_detach 66 = .ok (.dup2, 1) := by decide +kernel
theorem dX4_detach_67 : decode cX4_detach 67 = .ok (.iaload, 1) := by decide +kernel
theorem dX4_detach_68 : decode cX4_detach 68 = .ok (.iconst 1, 1) := by decide +kernel
theorem dX4_detach_69 : decode cX4_detach 69 = .ok (.isub, 1) := by decide +kernel
theorem dX4_detach_70 : decode cX4_detach 70 = .ok (.iastore, 1) := by decide +kernel
theorem dX4_detach_71 : decode cX4_detach 71 = .ok (.return_, 1) := by decide +kernel
theorem dX4_fitAround_0 : decode cX4_fitAround 0 = .ok (.iconst 0, 1) := by decide +kernel
theorem dX4_fitAround_1 : decode cX4_fitAround 1 = .ok (.istore_n 3, 1) := by decide +kernel
theorem dX4_fitAround_2 : decode cX4_fitAround 2 = .ok (.iload_n 3, 1) := by decide +kernel
theorem dX4_fitAround_3 : decode cX4_fitAround 3 = .ok (.aload_n 0, 1) := by decide +kernel
theorem dX4_fitAround_4 : decode cX4_fitAround 4 = .ok (.getfield 33, 3) := by decide +kernel
theorem dX4_fitAround_7 : decode cX4_fitAround 7 = .ok (.iload_n 2, 1) := by decide +kernel
theorem dX4_fitAround_8 : decode cX4_fitAround 8 = .ok (.iaload, 1) := by decide +kernel
theorem dX4_fitAround_9 : decode cX4_fitAround 9 = .ok (.if_icmp .ge 38, 3) := by decide +kernel
theorem dX4_fitAround_12 : decode cX4_fitAround 12 = .ok (.iload_n 3, 1) := by decide +kernel
theorem dX4_fitAround_13 : decode cX4_fitAround 13 = .ok (.ifCond .ne 17, 3) := by decide +kernel
theorem dX4_fitAround_16 : decode cX4_fitAround 16 = .ok (.aload_n 0, 1) := by decide +kernel
theorem dX4_fitAround_17 : decode cX4_fitAround 17 = .ok (.aload_n 0, 1) := by decide +kernel
theorem dX4_fitAround_18 : decode cX4_fitAround 18 = .ok (.iload_n 2, 1) := by decide +kernel
theorem dX4_fitAround_19 : decode cX4_fitAround 19 = .ok (.iconst 0, 1) := by decide +kernel
theorem dX4_fitAround_20 : decode cX4_fitAround 20 = .ok (.invokevirtual 106, 3) := by decide +kernel
theorem dX4_fitAround_23 : decode cX4_fitAround 23 = .ok (.iload_n 1, 1) := by decide +kernel
theorem dX4_fitAround_24 : decode cX4_fitAround 24 = .ok (.invokevirtual 70, 3) := by decide +kernel
theorem dX4_fitAround_27 : decode cX4_fitAround 27 = .ok (.goto 14, 3) := by decide +kernel
theorem dX4_fitAround_30 : decode cX4_fitAround 30 = .ok (.aload_n 0, 1) := by decide +kernel
theorem dX4_fitAround_31 : decode cX4_fitAround 31 = .ok (.iload_n 1, 1) := by decide +kernel
theorem dX4_fitAround_32 : decode cX4_fitAround 32 = .ok (.aload_n 0, 1) := by decide +kernel
theorem dX4_fitAround_33 : decode cX4_fitAround 33 = .ok (.iload_n 2, 1) := by decide +kernel
theorem dX4_fitAround_34 : decode cX4_fitAround 34 = .ok (.iload_n 3, 1) := by decide +kernel
theorem dX4_fitAround_35 : decode cX4_fitAround 35 = .ok (.invokevirtual 106, 3) := by decide +kernel
theorem dX4_fitAround_38 : decode cX4_fitAround 38 = .ok (.invokevirtual 109, 3) := by decide +kernel
theorem dX4_fitAround_41 : decode cX4_fitAround 41 = .ok (.iinc 3 1, 3) := by decide +kernel
theorem dX4_fitAround_44 : decode cX4_fitAround 44 = .ok (.goto (-42), 3) := by decide +kernel
theorem dX4_fitAround_47 : decode cX4_fitAround 47 = .ok (.return_, 1) := by decide +kernel
theorem dX5_init_0 : decode cX5_init 0 = .ok (.aload_n 0, 1) := by decide +kernel
theorem dX5_init_1 : decode cX5_init 1 = .ok (.invokespecial 3, 3) := by decide +kernel
theorem dX5_init_4 : decode cX5_init 4 = .ok (.aload_n 0, 1) := by decide +kernel
theorem dX5_init_5 : decode cX5_init 5 = .ok (.sipush 160, 3) := by decide +kernel
theorem dX5_init_8 : decode cX5_init 8 = .ok (.newarray .int, 2) := by decide +kernel
theorem dX5_init_10 : decode cX5_init 10 = .ok (.putfield 9, 3) := by decide +kernel
theorem dX5_init_13 : decode cX5_init 13 = .ok (.aload_n 0, 1) := by decide +kernel
theorem dX5_init_14 : decode cX5_init 14 = .ok (.sipush 404, 3) := by decide +kernel
theorem dX5_init_17 : decode cX5_init 17 = .ok (.newarray .int, 2) := by decide +kernel
theorem dX5_init_19 : decode cX5_init 19 = .ok (.putfield 15, 3) := by decide +kernel
theorem dX5_init_22 : decode cX5_init 22 = .ok (.aload_n 0, 1) := by decide +kernel
theorem dX5_init_23 : decode cX5_init 23 = .ok (.aload_n 1, 1) := by decide +kernel
theorem dX5_init_24 : decode cX5_init 24 = .ok (.putfield 18, 3) := by decide +kernel
theorem dX5_init_27 : decode cX5_init 27 = .ok (.aload_n 0, 1) := by decide +kernel
theorem dX5_init_28 : decode cX5_init 28 = .ok (.new 22, 3) := by decide +kernel
theorem dX5_init_31 : decode cX5_init 31 = .ok (.dup, 1) := by decide +kernel
theorem dX5_init_32 : decode cX5_init 32 = .ok (.aload_n 1, 1) := by decide +kernel
theorem dX5_init_33 : decode cX5_init 33 = .ok (.invokespecial 24, 3) := by decide +kernel
theorem dX5_init_36 : decode cX5_init 36 = .ok (.putfield 27, 3) := by decide +kernel
theorem dX5_init_39 : decode cX5_init 39 = .ok (.aload_n 0, 1) := by decide +kernel
theorem dX5_init_40 : decode cX5_init 40 = .ok (.invokevirtual 31, 3) := by decide +kernel
theorem dX5_init_43 : decode cX5_init 43 = .ok (.return_, 1) := by decide +kernel
theorem dX5_startEmpty_0 : decode cX5_startEmpty 0 = .ok (.aload_n 0, 1) := by decide +kernel
theorem dX5_startEmpty_1 : decode cX5_startEmpty 1 = .ok (.getfield 18, 3) := by decide +kernel
theorem dX5_startEmpty_4 : decode cX5_startEmpty 4 = .ok (.invokevirtual 34, 3) := by decide +kernel
theorem dX5_startEmpty_7 : decode cX5_startEmpty 7 = .ok (.aload_n 0, 1) := by decide +kernel
theorem dX5_startEmpty_8 : decode cX5_startEmpty 8 = .ok (.aload_n 0, 1) := by decide +kernel
theorem dX5_startEmpty_9 : decode cX5_startEmpty 9 = .ok (.getfield 18, 3) := by decide +kernel
theorem dX5_startEmpty_12 : decode cX5_startEmpty 12 = .ok (.iconst 0, 1) := by decide +kernel
theorem dX5_startEmpty_13 : decode cX5_startEmpty 13 = .ok (.invokevirtual 39, 3) := by decide +kernel
theorem dX5_startEmpty_16 : decode cX5_startEmpty 16 = .ok (.putfield 43, 3) := by decide +kernel
theorem dX5_startEmpty_19 : decode cX5_startEmpty 19 = .ok (.aload_n 0, 1) := by decide +kernel
theorem dX5_startEmpty_20 : decode cX5_startEmpty 20 = .ok (.invokevirtual 47, 3) := by decide +kernel
theorem dX5_startEmpty_23 : decode cX5_startEmpty 23 = .ok (.return_, 1) := by decide +kernel
theorem dX5_renumber_0 : decode cX5_renumber 0 = .ok (.aload_n 0, 1) := by decide +kernel
theorem dX5_renumber_1 : decode cX5_renumber 1 = .ok (.iconst 0, 1) := by decide +kernel
theorem dX5_renumber_2 : decode cX5_renumber 2 = .ok (.putfield 50, 3) := by decide +kernel
theorem dX5_renumber_5 : decode cX5_renumber 5 = .ok (.aload_n 0, 1) := by decide +kernel
theorem dX5_renumber_6 : decode cX5_renumber 6 = .ok (.aload_n 0, 1) := by decide +kernel
theorem dX5_renumber_7 : decode cX5_renumber 7 = .ok (.getfield 43, 3) := by decide +kernel
theorem dX5_renumber_10 : decode cX5_renumber 10 = .ok (.iconst 0, 1) := by decide +kernel
theorem dX5_renumber_11 : decode cX5_renumber 11 = .ok (.invokevirtual 53, 3) := by decide +kernel
theorem dX5_renumber_14 : decode cX5_renumber 14 = .ok (.return_, 1) := by decide +kernel
theorem dX5_numberFrom_0 : decode cX5_numberFrom 0 = .ok (.iload_n 2, 1) := by decide +kernel
theorem dX5_numberFrom_1 : decode cX5_numberFrom 1 = .ok (.bipush 40, 2) := by decide +kernel
theorem dX5_numberFrom_3 : decode cX5_numberFrom 3 = .ok (.if_icmp .ge 15, 3) := by decide +kernel
theorem dX5_numberFrom_6 : decode cX5_numberFrom 6 = .ok (.aload_n 0, 1) := by decide +kernel
theorem dX5_numberFrom_7 : decode cX5_numberFrom 7 = .ok (.getfield 50, 3) := by decide +kernel
theorem dX5_numberFrom_10 : decode cX5_numberFrom 10 = .ok (.aload_n 0, 1) := by decide +kernel
theorem dX5_numberFrom_11 : decode cX5_numberFrom 11 = .ok (.getfield 15, 3) := by decide +kernel
theorem dX5_numberFrom_14 : decode cX5_numberFrom 14 = .ok (.arraylength, 1) := by decide +kernel
theorem dX5_numberFrom_15 : decode cX5_numberFrom 15 = .ok (.if_icmp .lt 4, 3) := by decide +kernel
theorem dX5_numberFrom_18 : decode cX5_numberFrom 18 = .ok (.return_, 1) := by decide +kernel
theorem dX5_numberFrom_19 : decode cX5_numberFrom 19 = .ok (.aload_n 0, 1) := by decide +kernel
theorem dX5_numberFrom_20 : decode cX5_numberFrom 20 = .ok (.getfield 18, 3) := by decide +kernel
theorem dX5_numberFrom_23 : decode cX5_numberFrom 23 = .ok (.getfield 57, 3) := by decide +kernel
theorem dX5_numberFrom_26 : decode cX5_numberFrom 26 = .ok (.iload_n 1, 1) := by decide +kernel
theorem dX5_numberFrom_27 : decode cX5_numberFrom 27 = .ok (.aload_n 0, 1) := by decide +kernel
theorem dX5_numberFrom_28 : decode cX5_numberFrom 28 = .ok (.getfield 50, 3) := by decide +kernel
theorem dX5_numberFrom_31 : decode cX5_numberFrom 31 = .ok (.iastore, 1) := by decide +kernel
theorem dX5_numberFrom_32 : decode cX5_numberFrom 32 = .ok (.aload_n 0, 1) := by decide +kernel
theorem dX5_numberFrom_33 : decode cX5_numberFrom 33 = .ok (.getfield 15, 3) := by decide +kernel
theorem dX5_numberFrom_36 : decode cX5_numberFrom 36 = .ok (.aload_n 0, 1) := by decide +kernel
theorem dX5_numberFrom_37 : decode cX5_numberFrom 37 = .ok (.dup, 1) := by decide +kernel
theorem dX5_numberFrom_38 : decode cX5_numberFrom 38 = .ok (.getfield 50, 3) := by decide +kernel
theorem dX5_numberFrom_41 : decode cX5_numberFrom 41 = .ok (.dup_x1, 1) := by decide +kernel
theorem dX5_numberFrom_42 : decode cX5_numberFrom 42 = .ok (.iconst 1, 1) := by decide +kernel
theorem dX5_numberFrom_43 : decode cX5_numberFrom 43 = .ok (.iadd, 1) := by decide +kernel
theorem dX5_numberFrom_44 : decode cX5_numberFrom 44 = .ok (.putfield 50, 3) := by decide +kernel
theorem dX5_numberFrom_47 : decode cX5_numberFrom 47 = .ok (.iload_n 1, 1) := by decide +kernel
theorem dX5_numberFrom_48 : decode cX5_numberFrom 48 = .ok (.iastore, 1) := by decide +kernel
theorem dX5_numberFrom_49 : decode cX5_numberFrom 49 = .ok (.aload_n 0, 1) := by decide +kernel
theorem dX5_numberFrom_50 : decode cX5_numberFrom 50 = .ok (.getfield 18, 3) := by decide +kernel
theorem dX5_numberFrom_53 : decode cX5_numberFrom 53 = .ok (.getfield 60, 3) := by decide +kernel
theorem dX5_numberFrom_56 : decode cX5_numberFrom 56 = .ok (.iload_n 1, 1) := by decide +kernel
theorem dX5_numberFrom_57 : decode cX5_numberFrom 57 = .ok (.iaload, 1) := by decide +kernel
theorem dX5_numberFrom_58 : decode cX5_numberFrom 58 = .ok (.ifCond .ne 4, 3) := by decide +kernel
theorem dX5_numberFrom_61 : decode cX5_numberFrom 61 = .ok (.return_, 1) := by decide +kernel
theorem dX5_numberFrom_62 : decode cX5_numberFrom 62 = .ok (.iconst 0, 1) := by decide +kernel
theorem dX5_numberFrom_63 : decode cX5_numberFrom 63 = .ok (.istore_n 3, 1) := by decide +kernel
theorem dX5_numberFrom_64 : decode cX5_numberFrom 64 = .ok (.iload_n 3, 1) := by decide +kernel
theorem dX5_numberFrom_65 : decode cX5_numberFrom 65 = .ok (.aload_n 0, 1) := by decide +kernel
theorem dX5_numberFrom_66 : decode cX5_numberFrom 66 = .ok (.getfield 18, 3) := by decide +kernel
theorem dX5_numberFrom_69 : decode cX5_numberFrom 69 = .ok (.getfield 63, 3) := by decide +kernel
theorem dX5_numberFrom_72 : decode cX5_numberFrom 72 = .ok (.iload_n 1, 1) := by decide +kernel
theorem dX5_numberFrom_73 : decode cX5_numberFrom 73 = .ok (.iaload, 1) := by decide +kernel
theorem dX5_numberFrom_74 : decode cX5_numberFrom 74 = .ok (.if_icmp .ge 25, 3) := by decide +kernel
theorem dX5_numberFrom_77 : decode cX5_numberFrom 77 = .ok (.aload_n 0, 1) := by decide +kernel
theorem dX5_numberFrom_78 : decode cX5_numberFrom 78 = .ok (.aload_n 0, 1) := by decide +kernel
theorem dX5_numberFrom_79 : decode cX5_numberFrom 79 = .ok (.getfield 18, 3) := by decide +kernel
theorem dX5_numberFrom_82 : decode cX5_numberFrom 82 = .ok (.iload_n 1, 1) := by decide +kernel
theorem dX5_numberFrom_83 : decode cX5_numberFrom 83 = .ok (.iload_n 3, 1) := by decide +kernel
theorem dX5_numberFrom_84 : decode cX5_numberFrom 84 = .ok (.invokevirtual 66, 3) := by decide +kernel
theorem dX5_numberFrom_87 : decode cX5_numberFrom 87 = .ok (.iload_n 2, 1) := by decide +kernel
theorem dX5_numberFrom_88 : decode cX5_numberFrom 88 = .ok (.iconst 1, 1) := by decide +kernel
theorem dX5_numberFrom_89 : decode cX5_numberFrom 89 = .ok (.iadd, 1) := by decide +kernel
theorem dX5_numberFrom_90 : decode cX5_numberFrom 90 = .ok (.invokevirtual 53, 3) := by decide +kernel
theorem dX5_numberFrom_93 : decode cX5_numberFrom 93 = .ok (.iinc 3 1, 3) := by decide +kernel
theorem dX5_numberFrom_96 : decode cX5_numberFrom 96 = .ok (.goto (-32), 3) := by decide +kernel
theorem dX5_numberFrom_99 : decode cX5_numberFrom 99 = .ok (.return_, 1) := by decide +kernel
theorem dX5_put_0 : decode cX5_put 0 = .ok (.aload_n 0, 1) := by decide +kernel
theorem dX5_put_1 : decode cX5_put 1 = .ok (.getfield 43, 3) := by decide +kernel
theorem dX5_put_4 : decode cX5_put 4 = .ok (.istore_n 2, 1) := by decide +kernel
theorem dX5_put_5 : decode cX5_put 5 = .ok (.iconst 0, 1) := by decide +kernel
theorem dX5_put_6 : decode cX5_put 6 = .ok (.istore_n 3, 1) := by decide +kernel
theorem dX5_put_7 : decode cX5_put 7 = .ok (.iload_n 3, 1) := by decide +kernel
theorem dX5_put_8 : decode cX5_put 8 = .ok (.bipush 40, 2) := by decide +kernel
theorem dX5_put_10 : decode cX5_put 10 = .ok (.if_icmp .ge 48, 3) := by decide +kernel
theorem dX5_put_13 : decode cX5_put 13 = .ok (.aload_n 0, 1) := by decide +kernel
theorem dX5_put_14 : decode cX5_put 14 = .ok (.getfield 18, 3) := by decide +kernel
theorem dX5_put_17 : decode cX5_put 17 = .ok (.getfield 60, 3) := by decide +kernel
theorem dX5_put_20 : decode cX5_put 20 = .ok (.iload_n 2, 1) := by decide +kernel
theorem dX5_put_21 : decode cX5_put 21 = .ok (.iaload, 1) := by decide +kernel
theorem dX5_put_22 : decode cX5_put 22 = .ok (.aload_n 0, 1) := by decide +kernel
theorem dX5_put_23 : decode cX5_put 23 = .ok (.getfield 18, 3) := by decide +kernel
theorem dX5_put_26 : decode cX5_put 26 = .ok (.getfield 60, 3) := by decide +kernel
theorem dX5_put_29 : decode cX5_put 29 = .ok (.iload_n 1, 1) := by decide +kernel
theorem dX5_put_30 : decode cX5_put 30 = .ok (.iaload, 1) := by decide +kernel
theorem dX5_put_31 : decode cX5_put 31 = .ok (.iconst 1, 1) := by decide +kernel
theorem dX5_put_32 : decode cX5_put 32 = .ok (.iadd, 1) := by decide +kernel
theorem dX5_put_33 : decode cX5_put 33 = .ok (.if_icmp .le 25, 3) := by decide +kernel
theorem dX5_put_36 : decode cX5_put 36 = .ok (.aload_n 0, 1) := by decide +kernel
theorem dX5_put_37 : decode cX5_put 37 = .ok (.getfield 18, 3) := by decide +kernel
theorem dX5_put_40 : decode cX5_put 40 = .ok (.iload_n 2, 1) := by decide +kernel
theorem dX5_put_41 : decode cX5_put 41 = .ok (.iload_n 1, 1) := by decide +kernel
theorem dX5_put_42 : decode cX5_put 42 = .ok (.invokevirtual 70, 3) := by decide +kernel
theorem dX5_put_45 : decode cX5_put 45 = .ok (.aload_n 0, 1) := by decide +kernel
theorem dX5_put_46 : decode cX5_put 46 = .ok (.iload_n 2, 1) := by decide +kernel
theorem dX5_put_47 : decode cX5_put 47 = .ok (.iload_n 1, 1) := by decide +kernel
theorem dX5_put_48 : decode cX5_put 48 = .ok (.invokevirtual 73, 3) := by decide +kernel
theorem dX5_put_51 : decode cX5_put 51 = .ok (.istore_n 2, 1) := by decide +kernel
theorem dX5_put_52 : decode cX5_put 52 = .ok (.iinc 3 1, 3) := by decide +kernel
theorem dX5_put_55 : decode cX5_put 55 = .ok (.goto (-48), 3) := by decide +kernel
theorem dX5_put_58 : decode cX5_put 58 = .ok (.aload_n 0, 1) := by decide +kernel
theorem dX5_put_59 : decode cX5_put 59 = .ok (.getfield 18, 3) := by decide +kernel
theorem dX5_put_62 : decode cX5_put 62 = .ok (.iload_n 2, 1) := by decide +kernel
theorem dX5_put_63 : decode cX5_put 63 = .ok (.iload_n 1, 1) := by decide +kernel
theorem dX5_put_64 : decode cX5_put 64 = .ok (.invokevirtual 76, 3) := by decide +kernel
theorem dX5_put_67 : decode cX5_put 67 = .ok (.aload_n 0, 1) := by decide +kernel
theorem dX5_put_68 : decode cX5_put 68 = .ok (.iload_n 2, 1) := by decide +kernel
theorem dX5_put_69 : decode cX5_put 69 = .ok (.invokevirtual 79, 3) := by decide +kernel
theorem dX5_put_72 : decode cX5_put 72 = .ok (.return_, 1) := by decide +kernel
theorem dX5_leastGrowing_0 : decode cX5_leastGrowing 0 = .ok (.aload_n 0, 1) := by decide +kernel
theorem dX5_leastGrowing_1 : decode cX5_leastGrowing 1 = .ok (.getfield 18, 3) := by decide +kernel
theorem dX5_leastGrowing_4 : decode cX5_leastGrowing 4 = .ok (.iload_n 1, 1) := by decide +kernel
theorem dX5_leastGrowing_5 : decode cX5_leastGrowing 5 = .ok (.iconst 0, 1) := by decide +kernel
theorem dX5_leastGrowing_6 : decode cX5_leastGrowing 6 = .ok (.invokevirtual 66, 3) := by decide +kernel
theorem dX5_leastGrowing_9 : decode cX5_leastGrowing 9 = .ok (.istore_n 3, 1) := by decide +kernel
theorem dX5_leastGrowing_10 : decode cX5_leastGrowing 10 = .ok (.iconst 1, 1) := by decide +kernel
theorem dX5_leastGrowing_11 : decode cX5_leastGrowing 11 = .ok (.istore 4, 2) := by decide +kernel
theorem dX5_leastGrowing_13 : decode cX5_leastGrowing 13 = .ok (.iload 4, 2) := by decide +kernel
theorem dX5_leastGrowing_15 : decode cX5_leastGrowing 15 = .ok (.aload_n 0, 1) := by decide +kernel
theorem dX5_leastGrowing_16 : decode cX5_leastGrowing 16 = .ok (.getfield 18, 3) := by decide +kernel
theorem dX5_leastGrowing_19 : decode cX5_leastGrowing 19 = .ok (.getfield 63, 3) := by decide +kernel
theorem dX5_leastGrowing_22 : decode cX5_leastGrowing 22 = .ok (.iload_n 1, 1) := by decide +kernel
theorem dX5_leastGrowing_23 : decode cX5_leastGrowing 23 = .ok (.iaload, 1) := by decide +kernel
theorem dX5_leastGrowing_24 : decode cX5_leastGrowing 24 = .ok (.if_icmp .ge 78, 3) := by decide +kernel
theorem dX5_leastGrowing_27 : decode cX5_leastGrowing 27 = .ok (.aload_n 0, 1) := by decide +kernel
theorem dX5_leastGrowing_28 : decode cX5_leastGrowing 28 = .ok (.getfield 18, 3) := by decide +kernel
theorem dX5_leastGrowing_31 : decode cX5_leastGrowing 31 = .ok (.iload_n 1, 1) := by decide +kernel
theorem dX5_leastGrowing_32 : decode cX5_leastGrowing 32 = .ok (.iload 4, 2) := by decide +kernel
theorem dX5_leastGrowing_34 : decode cX5_leastGrowing 34 = .ok (.invokevirtual 66, 3) := by decide +kernel
theorem dX5_leastGrowing_37 : decode cX5_leastGrowing 37 = .ok (.istore 5, 2) := by decide +kernel
theorem dX5_leastGrowing_39 : decode cX5_leastGrowing 39 = .ok (.aload_n 0, 1) := by decide +kernel
theorem dX5_leastGrowing_40 : decode cX5_leastGrowing 40 = .ok (.getfield 18, 3) := by decide +kernel
theorem dX5_leastGrowing_43 : decode cX5_leastGrowing 43 = .ok (.iload 5, 2) := by decide +kernel
theorem dX5_leastGrowing_45 : decode cX5_leastGrowing 45 = .ok (.iload_n 2, 1) := by decide +kernel
theorem dX5_leastGrowing_46 : decode cX5_leastGrowing 46 = .ok (.invokevirtual 83, 3) := by decide +kernel
theorem dX5_leastGrowing_49 : decode cX5_leastGrowing 49 = .ok (.aload_n 0, 1) := by decide +kernel
theorem dX5_leastGrowing_50 : decode cX5_leastGrowing 50 = .ok (.getfield 18, 3) := by decide +kernel
theorem dX5_leastGrowing_53 : decode cX5_leastGrowing 53 = .ok (.iload_n 3, 1) := by decide +kernel
theorem dX5_leastGrowing_54 : decode cX5_leastGrowing 54 = .ok (.iload_n 2, 1) := by decide +kernel
theorem dX5_leastGrowing_55 : decode cX5_leastGrowing 55 = .ok (.invokevirtual 83, 3) := by decide +kernel
theorem dX5_leastGrowing_58 : decode cX5_leastGrowing 58 = .ok (.invokestatic 86, 3) := by decide +kernel
theorem dX5_leastGrowing_61 : decode cX5_leastGrowing 61 = .ok (.istore 6, 2) := by decide +kernel
theorem dX5_leastGrowing_63 : decode cX5_leastGrowing 63 = .ok (.iload 6, 2) := by decide +kernel
theorem dX5_leastGrowing_65 : decode cX5_leastGrowing 65 = .ok (.ifCond .lt 28, 3) := by decide +kernel
theorem dX5_leastGrowing_68 : decode cX5_leastGrowing 68 = .ok (.iload 6, 2) := by decide +kernel
theorem dX5_leastGrowing_70 : decode cX5_leastGrowing 70 = .ok (.ifCond .ne 26, 3) := by decide +kernel
theorem dX5_leastGrowing_73 : decode cX5_leastGrowing 73 = .ok (.aload_n 0, 1) := by decide +kernel
theorem dX5_leastGrowing_74 : decode cX5_leastGrowing 74 = .ok (.getfield 18, 3) := by decide +kernel
theorem dX5_leastGrowing_77 : decode cX5_leastGrowing 77 = .ok (.iload 5, 2) := by decide +kernel
theorem dX5_leastGrowing_79 : decode cX5_leastGrowing 79 = .ok (.invokevirtual 91, 3) := by decide +kernel
theorem dX5_leastGrowing_82 : decode cX5_leastGrowing 82 = .ok (.aload_n 0, 1) := by decide +kernel
theorem dX5_leastGrowing_83 : decode cX5_leastGrowing 83 = .ok (.getfield 18, 3) := by decide +kernel
theorem dX5_leastGrowing_86 : decode cX5_leastGrowing 86 = .ok (.iload_n 3, 1) := by decide +kernel
theorem dX5_leastGrowing_87 : decode cX5_leastGrowing 87 = .ok (.invokevirtual 91, 3) := by decide +kernel
theorem dX5_leastGrowing_90 : decode cX5_leastGrowing 90 = .ok (.if_icmp .ge 6, 3) := by decide +kernel
theorem dX5_leastGrowing_93 : decode cX5_leastGrowing 93 = .ok (.iload 5, 2) := by decide +kernel
theorem dX5_leastGrowing_95 : decode cX5_leastGrowing 95 = .ok (.istore_n 3, 1) := by decide +kernel
theorem dX5_leastGrowing_96 : decode cX5_leastGrowing 96 = .ok (.iinc 4 1, 3) := by decide +kernel
theorem dX5_leastGrowing_99 : decode cX5_leastGrowing 99 = .ok (.goto (-86), 3) := by decide +kernel
theorem dX5_leastGrowing_102 : decode cX5_leastGrowing 102 = .ok (.iload_n 3, 1) := by decide +kernel
theorem dX5_leastGrowing_103 : decode cX5_leastGrowing 103 = .ok (.ireturn, 1) := by decide +kernel
theorem dX5_splitUpwards_0 : decode cX5_splitUpwards 0 = .ok (.iload_n 1, 1) := by decide +kernel
theorem dX5_splitUpwards_1 : decode cX5_splitUpwards 1 = .ok (.istore_n 2, 1) := by decide +kernel
theorem dX5_splitUpwards_2 : decode cX5_splitUpwards 2 = .ok (.iconst 0, 1) := by decide +kernel
theorem dX5_splitUpwards_3 : decode cX5_splitUpwards 3 = .ok (.istore_n 3, 1) := by decide +kernel
theorem dX5_splitUpwards_4 : decode cX5_splitUpwards 4 = .ok (.iload_n 3, 1) := by decide +kernel
theorem dX5_splitUpwards_5 : decode cX5_splitUpwards 5 = .ok (.bipush 40, 2) := by decide +kernel
theorem dX5_splitUpwards_7 : decode cX5_splitUpwards 7 = .ok (.if_icmp .ge 108, 3) := by decide +kernel
theorem dX5_splitUpwards_10 : decode cX5_splitUpwards 10 = .ok (.iload_n 2, 1) := by decide +kernel
theorem dX5_splitUpwards_11 : decode cX5_splitUpwards 11 = .ok (.iconst (-1), 1) := by decide +kernel
theorem dX5_splitUpwards_12 : decode cX5_splitUpwards 12 = .ok (.if_icmp .eq 103, 3) := by decide +kernel
theorem dX5_splitUpwards_15 : decode cX5_splitUpwards 15 = .ok (.aload_n 0, 1) := by decide +kernel
theorem dX5_splitUpwards_16 : decode cX5_splitUpwards 16 = .ok (.getfield 18, 3) := by decide +kernel
theorem dX5_splitUpwards_19 : decode cX5_splitUpwards 19 = .ok (.getfield 63, 3) := by decide +kernel
theorem dX5_splitUpwards_22 : decode cX5_splitUpwards 22 = .ok (.iload_n 2, 1) := by decide +kernel
theorem dX5_splitUpwards_23 : decode cX5_splitUpwards 23 = .ok (.iaload, 1) := by decide +kernel
theorem dX5_splitUpwards_24 : decode cX5_splitUpwards 24 = .ok (.aload_n 0, 1) := by decide +kernel
theorem dX5_splitUpwards_25 : decode cX5_splitUpwards 25 = .ok (.getfield 18, 3) := by decide +kernel
theorem dX5_splitUpwards_28 : decode cX5_splitUpwards 28 = .ok (.getfield 94, 3) := by decide +kernel
theorem dX5_splitUpwards_31 : decode cX5_splitUpwards 31 = .ok (.if_icmp .le 84, 3) := by decide +kernel
theorem dX5_splitUpwards_34 : decode cX5_splitUpwards 34 = .ok (.aload_n 0, 1) := by decide +kernel
theorem dX5_splitUpwards_35 : decode cX5_splitUpwards 35 = .ok (.getfield 18, 3) := by decide +kernel
theorem dX5_splitUpwards_38 : decode cX5_splitUpwards 38 = .ok (.aload_n 0, 1) := by decide +kernel
theorem dX5_splitUpwards_39 : decode cX5_splitUpwards 39 = .ok (.getfield 18, 3) := by decide +kernel
theorem dX5_splitUpwards_42 : decode cX5_splitUpwards 42 = .ok (.getfield 60, 3) := by decide +kernel
theorem dX5_splitUpwards_45 : decode cX5_splitUpwards 45 = .ok (.iload_n 2, 1) := by decide +kernel
theorem dX5_splitUpwards_46 : decode cX5_splitUpwards 46 = .ok (.iaload, 1) := by decide +kernel
theorem dX5_splitUpwards_47 : decode cX5_splitUpwards 47 = .ok (.invokevirtual 39, 3) := by decide +kernel
theorem dX5_splitUpwards_50 : decode cX5_splitUpwards 50 = .ok (.istore 4, 2) := by decide +kernel
theorem dX5_splitUpwards_52 : decode cX5_splitUpwards 52 = .ok (.aload_n 0, 1) := by decide +kernel
theorem dX5_splitUpwards_53 : decode cX5_splitUpwards 53 = .ok (.dup, 1) := by decide +kernel
theorem dX5_splitUpwards_54 : decode cX5_splitUpwards 54 = .ok (.getfield 97, 3) := by decide +kernel
theorem dX5_splitUpwards_57 : decode cX5_splitUpwards 57 = .ok (.iconst 1, 1) := by decide +kernel
theorem dX5_splitUpwards_58 : decode cX5_splitUpwards 58 = .ok (.iadd, 1) := by decide +kernel
theorem dX5_splitUpwards_59 : decode cX5_splitUpwards 59 = .ok (.putfield 97, 3) := by decide +kernel
theorem dX5_splitUpwards_62 : decode cX5_splitUpwards 62 = .ok (.aload_n 0, 1) := by decide +kernel
theorem dX5_splitUpwards_63 : decode cX5_splitUpwards 63 = .ok (.getfield 27, 3) := by decide +kernel
theorem dX5_splitUpwards_66 : decode cX5_splitUpwards 66 = .ok (.iload_n 2, 1) := by decide +kernel
theorem dX5_splitUpwards_67 : decode cX5_splitUpwards 67 = .ok (.iload 4, 2) := by decide +kernel
theorem dX5_splitUpwards_69 : decode cX5_splitUpwards 69 = .ok (.invokevirtual 100, 3) := by decide +kernel
theorem dX5_splitUpwards_72 : decode cX5_splitUpwards 72 = .ok (.iload_n 2, 1) := by decide +kernel
theorem dX5_splitUpwards_73 : decode cX5_splitUpwards 73 = .ok (.aload_n 0, 1) := by decide +kernel
theorem dX5_splitUpwards_74 : decode cX5_splitUpwards 74 = .ok (.getfield 43, 3) := by decide +kernel
theorem dX5_splitUpwards_77 : decode cX5_splitUpwards 77 = .ok (.if_icmp .ne 12, 3) := by decide +kernel
theorem dX5_splitUpwards_80 : decode cX5_splitUpwards 80 = .ok (.aload_n 0, 1) := by decide +kernel
theorem dX5_splitUpwards_81 : decode cX5_splitUpwards 81 = .ok (.iload 4, 2) := by decide +kernel
theorem dX5_splitUpwards_83 : decode cX5_splitUpwards 83 = .ok (.invokevirtual 103, 3) := by decide +kernel
theorem dX5_splitUpwards_86 : decode cX5_splitUpwards 86 = .ok (.goto 13, 3) := by decide +kernel
theorem dX5_splitUpwards_89 : decode cX5_splitUpwards 89 = .ok (.aload_n 0, 1) := by decide +kernel
theorem dX5_splitUpwards_90 : decode cX5_splitUpwards 90 = .ok (.getfield 18, 3) := by decide +kernel
theorem dX5_splitUpwards_93 : decode cX5_splitUpwards 93 = .ok (.iload_n 2, 1) := by decide +kernel
theorem dX5_splitUpwards_94 : decode cX5_splitUpwards 94 = .ok (.iload 4, 2) := by decide +kernel
theorem dX5_splitUpwards_96 : decode cX5_splitUpwards 96 = .ok (.invokevirtual 106, 3) := by decide +kernel
theorem dX5_splitUpwards_99 : decode cX5_splitUpwards 99 = .ok (.aload_n 0, 1) := by decide +kernel
theorem dX5_splitUpwards_100 : decode cX5_splitUpwards 100 = .ok (.getfield 18, 3) := by decide +kernel
theorem dX5_splitUpwards_103 : decode cX5_splitUpwards 103 = .ok (.getfield 109, 3) := by decide +kernel
theorem dX5_splitUpwards_106 : decode cX5_splitUpwards 106 = .ok (.iload_n 2, 1) := by decide +kernel
theorem dX5_splitUpwards_107 : decode cX5_splitUpwards 107 = .ok (.iaload, 1) := by decide +kernel
theorem dX5_splitUpwards_108 : decode cX5_splitUpwards 108 = .ok (.istore_n 2, 1) := by decide +kernel
theorem dX5_splitUpwards_109 : decode cX5_splitUpwards 109 = .ok (.iinc 3 1, 3) := by decide +kernel
theorem dX5_splitUpwards_112 : decode cX5_splitUpwards 112 = .ok (.goto (-108), 3) := by decide +kernel
theorem dX5_splitUpwards_115 : decode cX5_splitUpwards 115 = .ok (.return_, 1) := by decide +kernel
theorem dX5_raiseRoot_0 : decode cX5_raiseRoot 0 = .ok (.aload_n 0, 1) := by decide +kernel
theorem dX5_raiseRoot_1 : decode cX5_raiseRoot 1 = .ok (.getfield 18, 3) := by decide +kernel
theorem dX5_raiseRoot_4 : decode cX5_raiseRoot 4 = .ok (.aload_n 0, 1) := by decide +kernel
theorem dX5_raiseRoot_5 : decode cX5_raiseRoot 5 = .ok (.getfield 18, 3) := by decide +kernel
theorem dX5_raiseRoot_8 : decode cX5_raiseRoot 8 = .ok (.getfield 60, 3) := by decide +kernel
theorem dX5_raiseRoot_11 : decode cX5_raiseRoot 11 = .ok (.aload_n 0, 1) := by decide +kernel
theorem dX5_raiseRoot_12 : decode cX5_raiseRoot 12 = .ok (.getfield 43, 3) := by decide +kernel
theorem dX5_raiseRoot_15 : decode cX5_raiseRoot 15 = .ok (.iaload, 1) := by decide +kernel
theorem dX5_raiseRoot_16 : decode cX5_raiseRoot 16 = .ok (.iconst 1, 1) := by decide +kernel
theorem dX5_raiseRoot_17 : decode cX5_raiseRoot 17 = .ok (.iadd, 1) := by decide +kernel
theorem dX5_raiseRoot_18 : decode cX5_raiseRoot 18 = .ok (.invokevirtual 39, 3) := by decide +kernel
theorem dX5_raiseRoot_21 : decode cX5_raiseRoot 21 = .ok (.istore_n 2, 1) := by decide +kernel
theorem dX5_raiseRoot_22 : decode cX5_raiseRoot 22 = .ok (.aload_n 0, 1) := by decide +kernel
theorem dX5_raiseRoot_23 : decode cX5_raiseRoot 23 = .ok (.getfield 18, 3) := by decide +kernel
theorem dX5_raiseRoot_26 : decode cX5_raiseRoot 26 = .ok (.iload_n 2, 1) := by decide +kernel
theorem dX5_raiseRoot_27 : decode cX5_raiseRoot 27 = .ok (.aload_n 0, 1) := by decide +kernel
theorem dX5_raiseRoot_28 : decode cX5_raiseRoot 28 = .ok (.getfield 43, 3) := by decide +kernel
theorem dX5_raiseRoot_31 : decode cX5_raiseRoot 31 = .ok (.invokevirtual 76, 3) := by decide +kernel
theorem dX5_raiseRoot_34 : decode cX5_raiseRoot 34 = .ok (.aload_n 0, 1) := by decide +kernel
theorem dX5_raiseRoot_35 : decode cX5_raiseRoot 35 = .ok (.getfield 18, 3) := by decide +kernel
theorem dX5_raiseRoot_38 : decode cX5_raiseRoot 38 = .ok (.iload_n 2, 1) := by decide +kernel
theorem dX5_raiseRoot_39 : decode cX5_raiseRoot 39 = .ok (.iload_n 1, 1) := by decide +kernel
theorem dX5_raiseRoot_40 : decode cX5_raiseRoot 40 = .ok (.invokevirtual 76, 3) := by decide +kernel
theorem dX5_raiseRoot_43 : decode cX5_raiseRoot 43 = .ok (.aload_n 0, 1) := by decide +kernel
theorem dX5_raiseRoot_44 : decode cX5_raiseRoot 44 = .ok (.iload_n 2, 1) := by decide +kernel
theorem dX5_raiseRoot_45 : decode cX5_raiseRoot 45 = .ok (.putfield 43, 3) := by decide +kernel
theorem dX5_raiseRoot_48 : decode cX5_raiseRoot 48 = .ok (.return_, 1) := by decide +kernel
theorem dX5_take_0 : decode cX5_take 0 = .ok (.aload_n 0, 1) := by decide +kernel
theorem dX5_take_1 : decode cX5_take 1 = .ok (.getfield 18, 3) := by decide +kernel
theorem dX5_take_4 : decode cX5_take 4 = .ok (.getfield 109, 3) := by decide +kernel
theorem dX5_take_7 : decode cX5_take 7 = .ok (.iload_n 1, 1) := by decide +kernel
theorem dX5_take_8 : decode cX5_take 8 = .ok (.iaload, 1) := by decide +kernel
theorem dX5_take_9 : decode cX5_take 9 = .ok (.istore_n 2, 1) := by decide +kernel
theorem dX5_take_10 : decode cX5_take 10 = .ok (.aload_n 0, 1) := by decide +kernel
theorem dX5_take_11 : decode cX5_take 11 = .ok (.getfield 18, 3) := by decide +kernel
theorem dX5_take_14 : decode cX5_take 14 = .ok (.iload_n 1, 1) := by decide +kernel
theorem dX5_take_15 : decode cX5_take 15 = .ok (.invokevirtual 112, 3) := by decide +kernel
theorem dX5_take_18 : decode cX5_take 18 = .ok (.aload_n 0, 1) := by decide +kernel
theorem dX5_take_19 : decode cX5_take 19 = .ok (.getfield 18, 3) := by decide +kernel
theorem dX5_take_22 : decode cX5_take 22 = .ok (.iload_n 1, 1) := by decide +kernel
theorem dX5_take_23 : decode cX5_take 23 = .ok (.invokevirtual 115, 3) := by decide +kernel
theorem dX5_take_26 : decode cX5_take 26 = .ok (.aload_n 0, 1) := by decide +kernel
theorem dX5_take_27 : decode cX5_take 27 = .ok (.iconst 0, 1) := by decide +kernel
theorem dX5_take_28 : decode cX5_take 28 = .ok (.putfield 118, 3) := by decide +kernel
theorem dX5_take_31 : decode cX5_take 31 = .ok (.aload_n 0, 1) := by decide +kernel
theorem dX5_take_32 : decode cX5_take 32 = .ok (.iload_n 2, 1) := by decide +kernel
theorem dX5_take_33 : decode cX5_take 33 = .ok (.invokevirtual 121, 3) := by decide +kernel
theorem dX5_take_36 : decode cX5_take 36 = .ok (.iconst 0, 1) := by decide +kernel
theorem dX5_take_37 : decode cX5_take 37 = .ok (.istore_n 3, 1) := by decide +kernel
theorem dX5_take_38 : decode cX5_take 38 = .ok (.iload_n 3, 1) := by decide +kernel
theorem dX5_take_39 : decode cX5_take 39 = .ok (.aload_n 0, 1) := by decide +kernel
theorem dX5_take_40 : decode cX5_take 40 = .ok (.getfield 118, 3) := by decide +kernel
theorem dX5_take_43 : decode cX5_take 43 = .ok (.if_icmp .ge 19, 3) := by decide +kernel
theorem dX5_take_46 : decode cX5_take 46 = .ok (.aload_n 0, 1) := by decide +kernel
theorem dX5_take_47 : decode cX5_take 47 = .ok (.aload_n 0, 1) := by decide +kernel
theorem dX5_take_48 : decode cX5_take 48 = .ok (.getfield 9, 3) := by decide +kernel
theorem dX5_take_51 : decode cX5_take 51 = .ok (.iload_n 3, 1) := by decide +kernel
theorem dX5_take_52 : decode cX5_take 52 = .ok (.iaload, 1) := by decide +kernel
theorem dX5_take_53 : decode cX5_take 53 = .ok (.invokevirtual 124, 3) := by decide +kernel
theorem dX5_take_56 : decode cX5_take 56 = .ok (.iinc 3 1, 3) := by decide +kernel
theorem dX5_take_59 : decode cX5_take 59 = .ok (.goto (-21), 3) := by decide +kernel
theorem dX5_take_62 : decode cX5_take 62 = .ok (.aload_n 0, 1) := by decide +kernel
theorem dX5_take_63 : decode cX5_take 63 = .ok (.invokevirtual 127, 3) := by decide +kernel
theorem dX5_take_66 : decode cX5_take 66 = .ok (.return_, 1) := by decide +kernel
theorem dX5_thinUpwards_0 : decode cX5_thinUpwards 0 = .ok (.iload_n 1, 1) := by decide +kernel
theorem dX5_thinUpwards_1 : decode cX5_thinUpwards 1 = .ok (.istore_n 2, 1) := by decide +kernel
theorem dX5_thinUpwards_2 : decode cX5_thinUpwards 2 = .ok (.iconst 0, 1) := by decide +kernel
theorem dX5_thinUpwards_3 : decode cX5_thinUpwards 3 = .ok (.istore_n 3, 1) := by decide +kernel
theorem dX5_thinUpwards_4 : decode cX5_thinUpwards 4 = .ok (.iload_n 3, 1) := by decide +kernel
theorem dX5_thinUpwards_5 : decode cX5_thinUpwards 5 = .ok (.bipush 40, 2) := by decide +kernel
theorem dX5_thinUpwards_7 : decode cX5_thinUpwards 7 = .ok (.if_icmp .ge 70, 3) := by decide +kernel
theorem dX5_thinUpwards_10 : decode cX5_thinUpwards 10 = .ok (.iload_n 2, 1) := by decide +kernel
theorem dX5_thinUpwards_11 : decode cX5_thinUpwards 11 = .ok (.iconst (-1), 1) := by decide +kernel
theorem dX5_thinUpwards_12 : decode cX5_thinUpwards 12 = .ok (.if_icmp .eq 65, 3) := by decide +kernel
theorem dX5_thinUpwards_15 : decode cX5_thinUpwards 15 = .ok (.aload_n 0, 1) := by decide +kernel
theorem dX5_thinUpwards_16 : decode cX5_thinUpwards 16 = .ok (.getfield 18, 3) := by decide +kernel
theorem dX5_thinUpwards_19 : decode cX5_thinUpwards 19 = .ok (.getfield 109, 3) := by decide +kernel
theorem dX5_thinUpwards_22 : decode cX5_thinUpwards 22 = .ok (.iload_n 2, 1) := by decide +kernel
theorem dX5_thinUpwards_23 : decode cX5_thinUpwards 23 = .ok (.iaload, 1) := by decide +kernel
theorem dX5_thinUpwards_24 : decode cX5_thinUpwards 24 = .ok (.istore 4, 2) := by decide +kernel
theorem dX5_thinUpwards_26 : decode cX5_thinUpwards 26 = .ok (.iload 4, 2) := by decide +kernel
theorem dX5_thinUpwards_28 : decode cX5_thinUpwards 28 = .ok (.iconst (-1), 1) := by decide +kernel
theorem dX5_thinUpwards_29 : decode cX5_thinUpwards 29 = .ok (.if_icmp .eq 30, 3) := by decide +kernel
theorem dX5_thinUpwards_32 : decode cX5_thinUpwards 32 = .ok (.aload_n 0, 1) := by decide +kernel
theorem dX5_thinUpwards_33 : decode cX5_thinUpwards 33 = .ok (.getfield 18, 3) := by decide +kernel
theorem dX5_thinUpwards_36 : decode cX5_thinUpwards 36 = .ok (.getfield 63, 3) := by decide +kernel
theorem dX5_thinUpwards_39 : decode cX5_thinUpwards 39 = .ok (.iload_n 2, 1) := by decide +kernel
theorem dX5_thinUpwards_40 : decode cX5_thinUpwards 40 = .ok (.iaload, 1) := by decide +kernel
theorem dX5_thinUpwards_41 : decode cX5_thinUpwards 41 = .ok (.aload_n 0, 1) := by decide +kernel
theorem dX5_thinUpwards_42 : decode cX5_thinUpwards 42 = .ok (.getfield 18, 3) := by decide +kernel
theorem dX5_thinUpwards_45 : decode cX5_thinUpwards 45 = .ok (.getfield 130, 3) := by decide +kernel
theorem dX5_thinUpwards_48 : decode cX5_thinUpwards 48 = .ok (.if_icmp .ge 11, 3) := by decide +kernel
theorem dX5_thinUpwards_51 : decode cX5_thinUpwards 51 = .ok (.aload_n 0, 1) := by decide +kernel
theorem dX5_thinUpwards_52 : decode cX5_thinUpwards 52 = .ok (.iload_n 2, 1) := by decide +kernel
theorem dX5_thinUpwards_53 : decode cX5_thinUpwards 53 = .ok (.invokevirtual 133, 3) := by decide +kernel
theorem dX5_thinUpwards_56 : decode cX5_thinUpwards 56 = .ok (.goto 12, 3) := by decide +kernel
theorem dX5_thinUpwards_59 : decode cX5_thinUpwards 59 = .ok (.aload_n 0, 1) := by decide +kernel
theorem dX5_thinUpwards_60 : decode cX5_thinUpwards 60 = .ok (.getfield 18, 3) := by decide +kernel
theorem dX5_thinUpwards_63 : decode cX5_thinUpwards 63 = .ok (.iload_n 2, 1) := by decide +kernel
theorem dX5_thinUpwards_64 : decode cX5_thinUpwards 64 = .ok (.iload_n 2, 1) := by decide +kernel
theorem dX5_thinUpwards_65 : decode cX5_thinUpwards 65 = .ok (.invokevirtual 136, 3) := by decide +kernel
theorem dX5_thinUpwards_68 : decode cX5_thinUpwards 68 = .ok (.iload 4, 2) := by decide +kernel
theorem dX5_thinUpwards_70 : decode cX5_thinUpwards 70 = .ok (.istore_n 2, 1) := by decide +kernel
theorem dX5_thinUpwards_71 : decode cX5_thinUpwards 71 = .ok (.iinc 3 1, 3) := by decide +kernel
theorem dX5_thinUpwards_74 : decode cX5_thinUpwards 74 = .ok (.goto (-70), 3) := by decide +kernel
theorem dX5_thinUpwards_77 : decode cX5_thinUpwards 77 = .ok (.return_, 1) := by decide +kernel
theorem dX5_dissolve_0 : decode cX5_dissolve 0 = .ok (.aload_n 0, 1) := by decide +kernel
theorem dX5_dissolve_1 : decode cX5_dissolve 1 = .ok (.getfield 18, 3) := by decide +kernel
theorem dX5_dissolve_4 : decode cX5_dissolve 4 = .ok (.iload_n 1, 1) := by decide +kernel
theorem dX5_dissolve_5 : decode cX5_dissolve 5 = .ok (.invokevirtual 112, 3) := by decide +kernel
theorem dX5_dissolve_8 : decode cX5_dissolve 8 = .ok (.iconst 0, 1) := by decide +kernel
theorem dX5_dissolve_9 : decode cX5_dissolve 9 = .ok (.istore_n 2, 1) := by decide +kernel
theorem dX5_dissolve_10 : decode cX5_dissolve 10 = .ok (.iload_n 2, 1) := by decide +kernel
theorem dX5_dissolve_11 : decode cX5_dissolve 11 = .ok (.aload_n 0, 1) := by decide +kernel
theorem dX5_dissolve_12 : decode cX5_dissolve 12 = .ok (.getfield 18, 3) := by decide +kernel
theorem dX5_dissolve_15 : decode cX5_dissolve 15 = .ok (.getfield 63, 3) := by decide +kernel
theorem dX5_dissolve_18 : decode cX5_dissolve 18 = .ok (.iload_n 1, 1) := by decide +kernel
theorem dX5_dissolve_19 : decode cX5_dissolve 19 = .ok (.iaload, 1) := by decide +kernel
theorem dX5_dissolve_20 : decode cX5_dissolve 20 = .ok (.if_icmp .ge 56, 3) := by decide +kernel
theorem dX5_dissolve_23 : decode cX5_dissolve 23 = .ok (.aload_n 0, 1) := by decide +kernel
theorem dX5_dissolve_24 : decode cX5_dissolve 24 = .ok (.getfield 118, 3) := by decide +kernel
theorem dX5_dissolve_27 : decode cX5_dissolve 27 = .ok (.aload_n 0, 1) := by decide +kernel
theorem dX5_dissolve_28 : decode cX5_dissolve 28 = .ok (.getfield 9, 3) := by decide +kernel
theorem dX5_dissolve_31 : decode cX5_dissolve 31 = .ok (.arraylength, 1) := by decide +kernel
theorem dX5_dissolve_32 : decode cX5_dissolve 32 = .ok (.if_icmp .ge 44, 3) := by decide +kernel
theorem dX5_dissolve_35 : decode cX5_dissolve 35 = .ok (.aload_n 0, 1) := by decide +kernel
theorem dX5_dissolve_36 : decode cX5_dissolve 36 = .ok (.getfield 9, 3) := by decide +kernel
theorem dX5_dissolve_39 : decode cX5_dissolve 39 = .ok (.aload_n 0, 1) := by decide +kernel
theorem dX5_dissolve_40 : decode cX5_dissolve 40 = .ok (.dup, 1) := by decide +kernel
theorem dX5_dissolve_41 : decode cX5_dissolve 41 = .ok (.getfield 118, 3) := by decide +kernel
theorem dX5_dissolve_44 : decode cX5_dissolve 44 = .ok (.dup_x1, 1) := by decide +kernel
theorem dX5_dissolve_45 : decode cX5_dissolve 45 = .ok (.iconst 1, 1) := by decide +kernel
theorem dX5_dissolve_46 : decode cX5_dissolve 46 = .ok (.iadd, 1) := by decide +kernel
theorem dX5_dissolve_47 : decode cX5_dissolve 47 = .ok (.putfield 118, 3) := by decide +kernel
theorem dX5_dissolve_50 : decode cX5_dissolve 50 = .ok (.aload_n 0, 1) := by decide +kernel
theorem dX5_dissolve_51 : decode cX5_dissolve 51 = .ok (.getfield 18, 3) := by decide +kernel
theorem dX5_dissolve_54 : decode cX5_dissolve 54 = .ok (.iload_n 1, 1) := by decide +kernel
theorem dX5_dissolve_55 : decode cX5_dissolve 55 = .ok (.iload_n 2, 1) := by decide +kernel
theorem dX5_dissolve_56 : decode cX5_dissolve 56 = .ok (.invokevirtual 66, 3) := by decide +kernel
theorem dX5_dissolve_59 : decode cX5_dissolve 59 = .ok (.iastore, 1) := by decide +kernel
theorem dX5_dissolve_60 : decode cX5_dissolve 60 = .ok (.aload_n 0, 1) := by decide +kernel
theorem dX5_dissolve_61 : decode cX5_dissolve 61 = .ok (.dup, 1) := by decide +kernel
theorem dX5_dissolve_62 : decode cX5_dissolve 62 = .ok (.getfield 139, 3) := by decide +kernel
theorem dX5_dissolve_65 : decode cX5_dissolve 65 = .ok (.iconst 1, 1) := by decide +kernel
theorem dX5_dissolve_66 : decode cX5_dissolve 66 = .ok (.iadd, 1) := by decide +kernel
theorem dX5_dissolve_67 : decode cX5_dissolve 67 = .ok (.putfield 139, 3) := by decide +kernel
theorem dX5_dissolve_70 : decode cX5_dissolve 70 = .ok (.iinc 2 1, 3) := by decide +kernel
theorem dX5_dissolve_73 : decode cX5_dissolve 73 = .ok (.goto (-63), 3) := by decide +kernel
theorem dX5_dissolve_76 : decode cX5_dissolve 76 = .ok (.aload_n 0, 1) := by decide +kernel
theorem dX5_dissolve_77 : decode cX5_dissolve 77 = .ok (.getfield 18, 3) := by decide +kernel
theorem dX5_dissolve_80 : decode cX5_dissolve 80 = .ok (.iload_n 1, 1) := by decide +kernel
theorem dX5_dissolve_81 : decode cX5_dissolve 81 = .ok (.invokevirtual 142, 3) := by decide +kernel
theorem dX5_dissolve_84 : decode cX5_dissolve 84 = .ok (.aload_n 0, 1) := by decide +kernel
theorem dX5_dissolve_85 : decode cX5_dissolve 85 = .ok (.dup, 1) := by decide +kernel
theorem dX5_dissolve_86 : decode cX5_dissolve 86 = .ok (.getfield 145, 3) := by decide +kernel
theorem dX5_dissolve_89 : decode cX5_dissolve 89 = .ok (.iconst 1, 1) := by decide +kernel
theorem dX5_dissolve_90 : decode cX5_dissolve 90 = .ok (.iadd, 1) := by decide +kernel
theorem dX5_dissolve_91 : decode cX5_dissolve 91 = .ok (.putfield 145, 3) := by decide +kernel
theorem dX5_dissolve_94 : decode cX5_dissolve 94 = .ok (.return_, 1) := by decide +kernel
theorem dX5_lowerRoot_0 : decode cX5_lowerRoot 0 = .ok (.iconst 0, 1) := by decide +kernel
theorem dX5_lowerRoot_1 : decode cX5_lowerRoot 1 = .ok (.istore_n 1, 1) := by decide +kernel
theorem dX5_lowerRoot_2 : decode cX5_lowerRoot 2 = .ok (.iload_n 1, 1) := by decide +kernel
theorem dX5_lowerRoot_3 : decode cX5_lowerRoot 3 = .ok (.bipush 40, 2) := by decide +kernel
theorem dX5_lowerRoot_5 : decode cX5_lowerRoot 5 = .ok (.if_icmp .ge 79, 3) := by decide +kernel
theorem dX5_lowerRoot_8 : decode cX5_lowerRoot 8 = .ok (.aload_n 0, 1) := by decide +kernel
theorem dX5_lowerRoot_9 : decode cX5_lowerRoot 9 = .ok (.getfield 18, 3) := by decide +kernel
theorem dX5_lowerRoot_12 : decode cX5_lowerRoot 12 = .ok (.getfield 60, 3) := by decide +kernel
theorem dX5_lowerRoot_15 : decode cX5_lowerRoot 15 = .ok (.aload_n 0, 1) := by decide +kernel
theorem dX5_lowerRoot_16 : decode cX5_lowerRoot 16 = .ok (.getfield 43, 3) := by decide +kernel
theorem dX5_lowerRoot_19 : decode cX5_lowerRoot 19 = .ok (.iaload, 1) := by decide +kernel
theorem dX5_lowerRoot_20 : decode cX5_lowerRoot 20 = .ok (.ifCond .le 64, 3) := by decide +kernel
theorem dX5_lowerRoot_23 : decode cX5_lowerRoot 23 = .ok (.aload_n 0, 1) := by decide +kernel
theorem dX5_lowerRoot_24 : decode cX5_lowerRoot 24 = .ok (.getfield 18, 3) := by decide +kernel
theorem dX5_lowerRoot_27 : decode cX5_lowerRoot 27 = .ok (.getfield 63, 3) := by decide +kernel
theorem dX5_lowerRoot_30 : decode cX5_lowerRoot 30 = .ok (.aload_n 0, 1) := by decide +kernel
theorem dX5_lowerRoot_31 : decode cX5_lowerRoot 31 = .ok (.getfield 43, 3) := by decide +kernel
theorem dX5_lowerRoot_34 : decode cX5_lowerRoot 34 = .ok (.iaload, 1) := by decide +kernel
theorem dX5_lowerRoot_35 : decode cX5_lowerRoot 35 = .ok (.iconst 1, 1) := by decide +kernel
theorem dX5_lowerRoot_36 : decode cX5_lowerRoot 36 = .ok (.if_icmp .ne 48, 3) := by decide +kernel
theorem dX5_lowerRoot_39 : decode cX5_lowerRoot 39 = .ok (.aload_n 0, 1) := by decide +kernel
theorem dX5_lowerRoot_40 : decode cX5_lowerRoot 40 = .ok (.getfield 18, 3) := by decide +kernel
theorem dX5_lowerRoot_43 : decode cX5_lowerRoot 43 = .ok (.aload_n 0, 1) := by decide +kernel
theorem dX5_lowerRoot_44 : decode cX5_lowerRoot 44 = .ok (.getfield 43, 3) := by decide +kernel
theorem dX5_lowerRoot_47 : decode cX5_lowerRoot 47 = .ok (.iconst 0, 1) := by decide +kernel
theorem dX5_lowerRoot_48 : decode cX5_lowerRoot 48 = .ok (.invokevirtual 66, 3) := by decide +kernel
theorem dX5_lowerRoot_51 : decode cX5_lowerRoot 51 = .ok (.istore_n 2, 1) := by decide +kernel
theorem dX5_lowerRoot_52 : decode cX5_lowerRoot 52 = .ok (.aload_n 0, 1) := by decide +kernel
theorem dX5_lowerRoot_53 : decode cX5_lowerRoot 53 = .ok (.getfield 18, 3) := by decide +kernel
theorem dX5_lowerRoot_56 : decode cX5_lowerRoot 56 = .ok (.aload_n 0, 1) := by decide +kernel
theorem dX5_lowerRoot_57 : decode cX5_lowerRoot 57 = .ok (.getfield 43, 3) := by decide +kernel
theorem dX5_lowerRoot_60 : decode cX5_lowerRoot 60 = .ok (.invokevirtual 142, 3) := by decide +kernel
theorem dX5_lowerRoot_63 : decode cX5_lowerRoot 63 = .ok (.aload_n 0, 1) := by decide +kernel
theorem dX5_lowerRoot_64 : decode cX5_lowerRoot 64 = .ok (.getfield 18, 3) := by decide +kernel
theorem dX5_lowerRoot_67 : decode cX5_lowerRoot 67 = .ok (.getfield 109, 3) := by decide +kernel
theorem dX5_lowerRoot_70 : decode cX5_lowerRoot 70 = .ok (.iload_n 2, 1) := by decide +kernel
theorem dX5_lowerRoot_71 : decode cX5_lowerRoot 71 = .ok (.iconst (-1), 1) := by decide +kernel
theorem dX5_lowerRoot_72 : decode cX5_lowerRoot 72 = .ok (.iastore, 1) := by decide +kernel
theorem dX5_lowerRoot_73 : decode cX5_lowerRoot 73 = .ok (.aload_n 0, 1) := by decide +kernel
theorem dX5_lowerRoot_74 : decode cX5_lowerRoot 74 = .ok (.iload_n 2, 1) := by decide +kernel
theorem dX5_lowerRoot_75 : decode cX5_lowerRoot 75 = .ok (.putfield 43, 3) := by decide +kernel
theorem dX5_lowerRoot_78 : decode cX5_lowerRoot 78 = .ok (.iinc 1 1, 3) := by decide +kernel
theorem dX5_lowerRoot_81 : decode cX5_lowerRoot 81 = .ok (.goto (-79), 3) := by decide +kernel
theorem dX5_lowerRoot_84 : decode cX5_lowerRoot 84 = .ok (.return_, 1) := by decide +kernel
theorem dX5_meetingNodes_0 : decode cX5_meetingNodes 0 = .ok (.aload_n 0, 1) := by decide +kernel
theorem dX5_meetingNodes_1 : decode cX5_meetingNodes 1 = .ok (.getfield 50, 3) := by decide +kernel
theorem dX5_meetingNodes_4 : decode cX5_meetingNodes 4 = .ok (.istore_n 1, 1) := by decide +kernel
theorem dX5_meetingNodes_5 : decode cX5_meetingNodes 5 = .ok (.iconst 0, 1) := by decide +kernel
theorem dX5_meetingNodes_6 : decode cX5_meetingNodes 6 = .ok (.istore_n 2, 1) := by decide +kernel
theorem dX5_meetingNodes_7 : decode cX5_meetingNodes 7 = .ok (.iload_n 2, 1) := by decide +kernel
theorem dX5_meetingNodes_8 : decode cX5_meetingNodes 8 = .ok (.aload_n 0, 1) := by decide +kernel
theorem dX5_meetingNodes_9 : decode cX5_meetingNodes 9 = .ok (.getfield 50, 3) := by decide +kernel
theorem dX5_meetingNodes_12 : decode cX5_meetingNodes 12 = .ok (.if_icmp .ge 83, 3) := by decide +kernel
theorem dX5_meetingNodes_15 : decode cX5_meetingNodes 15 = .ok (.iload_n 2, 1) := by decide +kernel
theorem dX5_meetingNodes_16 : decode cX5_meetingNodes 16 = .ok (.iconst 1, 1) := by decide +kernel
theorem dX5_meetingNodes_17 : decode cX5_meetingNodes 17 = .ok (.iadd, 1) := by decide +kernel
theorem dX5_meetingNodes_18 : decode cX5_meetingNodes 18 = .ok (.istore_n 3, 1) := by decide +kernel
theorem dX5_meetingNodes_19 : decode cX5_meetingNodes 19 = .ok (.iload_n 3, 1) := by decide +kernel
theorem dX5_meetingNodes_20 : decode cX5_meetingNodes 20 = .ok (.aload_n 0, 1) := by decide +kernel
theorem dX5_meetingNodes_21 : decode cX5_meetingNodes 21 = .ok (.getfield 50, 3) := by decide +kernel
theorem dX5_meetingNodes_24 : decode cX5_meetingNodes 24 = .ok (.if_icmp .ge 65, 3) := by decide +kernel
theorem dX5_meetingNodes_27 : decode cX5_meetingNodes 27 = .ok (.aload_n 0, 1) := by decide +kernel
theorem dX5_meetingNodes_28 : decode cX5_meetingNodes 28 = .ok (.getfield 18, 3) := by decide +kernel
theorem dX5_meetingNodes_31 : decode cX5_meetingNodes 31 = .ok (.getfield 60, 3) := by decide +kernel
theorem dX5_meetingNodes_34 : decode cX5_meetingNodes 34 = .ok (.aload_n 0, 1) := by decide +kernel
theorem dX5_meetingNodes_35 : decode cX5_meetingNodes 35 = .ok (.getfield 15, 3) := by decide +kernel
theorem dX5_meetingNodes_38 : decode cX5_meetingNodes 38 = .ok (.iload_n 2, 1) := by decide +kernel
theorem dX5_meetingNodes_39 : decode cX5_meetingNodes 39 = .ok (.iaload, 1) := by decide +kernel
theorem dX5_meetingNodes_40 : decode cX5_meetingNodes 40 = .ok (.iaload, 1) := by decide +kernel
theorem dX5_meetingNodes_41 : decode cX5_meetingNodes 41 = .ok (.aload_n 0, 1) := by decide +kernel
theorem dX5_meetingNodes_42 : decode cX5_meetingNodes 42 = .ok (.getfield 18, 3) := by decide +kernel
theorem dX5_meetingNodes_45 : decode cX5_meetingNodes 45 = .ok (.getfield 60, 3) := by decide +kernel
theorem dX5_meetingNodes_48 : decode cX5_meetingNodes 48 = .ok (.aload_n 0, 1) := by decide +kernel
theorem dX5_meetingNodes_49 : decode cX5_meetingNodes 49 = .ok (.getfield 15, 3) := by decide +kernel
theorem dX5_meetingNodes_52 : decode cX5_meetingNodes 52 = .ok (.iload_n 3, 1) := by decide +kernel
theorem dX5_meetingNodes_53 : decode cX5_meetingNodes 53 = .ok (.iaload, 1) := by decide +kernel
theorem dX5_meetingNodes_54 : decode cX5_meetingNodes 54 = .ok (.iaload, 1) := by decide +kernel
theorem dX5_meetingNodes_55 : decode cX5_meetingNodes 55 = .ok (.if_icmp .ne 28, 3) := by decide +kernel
theorem dX5_meetingNodes_58 : decode cX5_meetingNodes 58 = .ok (.aload_n 0, 1) := by decide +kernel
theorem dX5_meetingNodes_59 : decode cX5_meetingNodes 59 = .ok (.getfield 18, 3) := by decide +kernel
theorem dX5_meetingNodes_62 : decode cX5_meetingNodes 62 = .ok (.aload_n 0, 1) := by decide +kernel
theorem dX5_meetingNodes_63 : decode cX5_meetingNodes 63 = .ok (.getfield 15, 3) := by decide +kernel
theorem dX5_meetingNodes_66 : decode cX5_meetingNodes 66 = .ok (.iload_n 2, 1) := by decide +kernel
theorem dX5_meetingNodes_67 : decode cX5_meetingNodes 67 = .ok (.iaload, 1) := by decide +kernel
theorem dX5_meetingNodes_68 : decode cX5_meetingNodes 68 = .ok (.aload_n 0, 1) := by decide +kernel
theorem dX5_meetingNodes_69 : decode cX5_meetingNodes 69 = .ok (.getfield 15, 3) := by decide +kernel
theorem dX5_meetingNodes_72 : decode cX5_meetingNodes 72 = .ok (.iload_n 3, 1) := by decide +kernel
theorem dX5_meetingNodes_73 : decode cX5_meetingNodes 73 = .ok (.iaload, 1) := by decide +kernel
theorem dX5_meetingNodes_74 : decode cX5_meetingNodes 74 = .ok (.invokevirtual 148, 3) := by decide +kernel
theorem dX5_meetingNodes_77 : decode cX5_meetingNodes 77 = .ok (.ifCond .eq 6, 3) := by decide +kernel
theorem dX5_meetingNodes_80 : decode cX5_meetingNodes 80 = .ok (.iinc 1 1, 3) := by decide +kernel
theorem dX5_meetingNodes_83 : decode cX5_meetingNodes 83 = .ok (.iinc 3 1, 3) := by decide +kernel
theorem dX5_meetingNodes_86 : decode cX5_meetingNodes 86 = .ok (.goto (-67), 3) := by decide +kernel
theorem dX5_meetingNodes_89 : decode cX5_meetingNodes 89 = .ok (.iinc 2 1, 3) := by decide +kernel
theorem dX5_meetingNodes_92 : decode cX5_meetingNodes 92 = .ok (.goto (-85), 3) := by decide +kernel
theorem dX5_meetingNodes_95 : decode cX5_meetingNodes 95 = .ok (.iload_n 1, 1) := by decide +kernel
theorem dX5_meetingNodes_96 : decode cX5_meetingNodes 96 = .ok (.ireturn, 1) := by decide +kernel
theorem dX6_init_0 : decode cX6_init 0 = .ok (.aload_n 0, 1) := by decide +kernel
theorem dX6_init_1 : decode cX6_init 1 = .ok (.invokespecial 3, 3) := by decide +kernel
theorem dX6_init_4 : decode cX6_init 4 = .ok (.aload_n 0, 1) := by decide +kernel
theorem dX6_init_5 : decode cX6_init 5 = .ok (.aload_n 1, 1) := by decide +kernel
theorem dX6_init_6 : decode cX6_init 6 = .ok (.putfield 9, 3) := by decide +kernel
theorem dX6_init_9 : decode cX6_init 9 = .ok (.aload_n 0, 1) := by decide +kernel
theorem dX6_init_10 : decode cX6_init 10 = .ok (.aload_n 2, 1) := by decide +kernel
theorem dX6_init_11 : decode cX6_init 11 = .ok (.putfield 15, 3) := by decide +kernel
theorem dX6_init_14 : decode cX6_init 14 = .ok (.return_, 1) := by decide +kernel
theorem dX6_shut_0 : decode cX6_shut 0 = .ok (.aload_n 0, 1) := by decide +kernel
theorem dX6_shut_1 : decode cX6_shut 1 = .ok (.iconst 0, 1) := by decide +kernel
theorem dX6_shut_2 : decode cX6_shut 2 = .ok (.putfield 19, 3) := by decide +kernel
theorem dX6_shut_5 : decode cX6_shut 5 = .ok (.return_, 1) := by decide +kernel
theorem dX6_open_0 : decode cX6_open 0 = .ok (.aload_n 0, 1) := by decide +kernel
theorem dX6_open_1 : decode cX6_open 1 = .ok (.iconst 1, 1) := by decide +kernel
theorem dX6_open_2 : decode cX6_open 2 = .ok (.putfield 19, 3) := by decide +kernel
theorem dX6_open_5 : decode cX6_open 5 = .ok (.aload_n 0, 1) := by decide +kernel
theorem dX6_open_6 : decode cX6_open 6 = .ok (.iconst 0, 1) := by decide +kernel
theorem dX6_open_7 : decode cX6_open 7 = .ok (.putfield 23, 3) := by decide +kernel
theorem dX6_open_10 : decode cX6_open 10 = .ok (.aload_n 0, 1) := by decide +kernel
theorem dX6_open_11 : decode cX6_open 11 = .ok (.iconst 0, 1) := by decide +kernel
theorem dX6_open_12 : decode cX6_open 12 = .ok (.putfield 27, 3) := by decide +kernel
theorem dX6_open_15 : decode cX6_open 15 = .ok (.aload_n 0, 1) := by decide +kernel
theorem dX6_open_16 : decode cX6_open 16 = .ok (.iconst (-1), 1) := by decide +kernel
theorem dX6_open_17 : decode cX6_open 17 = .ok (.putfield 30, 3) := by decide +kernel
theorem dX6_open_20 : decode cX6_open 20 = .ok (.return_, 1) := by decide +kernel
theorem dX6_goOn_0 : decode cX6_goOn 0 = .ok (.aload_n 0, 1) := by decide +kernel
theorem dX6_goOn_1 : decode cX6_goOn 1 = .ok (.invokevirtual 33, 3) := by decide +kernel
theorem dX6_goOn_4 : decode cX6_goOn 4 = .ok (.istore_n 1, 1) := by decide +kernel
theorem dX6_goOn_5 : decode cX6_goOn 5 = .ok (.iload_n 1, 1) := by decide +kernel
theorem dX6_goOn_6 : decode cX6_goOn 6 = .ok (.iconst (-1), 1) := by decide +kernel
theorem dX6_goOn_7 : decode cX6_goOn 7 = .ok (.if_icmp .ne 51, 3) := by decide +kernel
theorem dX6_goOn_10 : decode cX6_goOn 10 = .ok (.aload_n 0, 1) := by decide +kernel
theorem dX6_goOn_11 : decode cX6_goOn 11 = .ok (.getfield 27, 3) := by decide +kernel
theorem dX6_goOn_14 : decode cX6_goOn 14 = .ok (.aload_n 0, 1) := by decide +kernel
theorem dX6_goOn_15 : decode cX6_goOn 15 = .ok (.getfield 15, 3) := by decide +kernel
theorem dX6_goOn_18 : decode cX6_goOn 18 = .ok (.getfield 37, 3) := by decide +kernel
theorem dX6_goOn_21 : decode cX6_goOn 21 = .ok (.if_icmp .ge 37, 3) := by decide +kernel
theorem dX6_goOn_24 : decode cX6_goOn 24 = .ok (.aload_n 0, 1) := by decide +kernel
theorem dX6_goOn_25 : decode cX6_goOn 25 = .ok (.aload_n 0, 1) := by decide +kernel
theorem dX6_goOn_26 : decode cX6_goOn 26 = .ok (.getfield 15, 3) := by decide +kernel
theorem dX6_goOn_29 : decode cX6_goOn 29 = .ok (.getfield 42, 3) := by decide +kernel
theorem dX6_goOn_32 : decode cX6_goOn 32 = .ok (.aload_n 0, 1) := by decide +kernel
theorem dX6_goOn_33 : decode cX6_goOn 33 = .ok (.getfield 27, 3) := by decide +kernel
theorem dX6_goOn_36 : decode cX6_goOn 36 = .ok (.iaload, 1) := by decide +kernel
theorem dX6_goOn_37 : decode cX6_goOn 37 = .ok (.invokevirtual 46, 3) := by decide +kernel
theorem dX6_goOn_40 : decode cX6_goOn 40 = .ok (.aload_n 0, 1) := by decide +kernel
theorem dX6_goOn_41 : decode cX6_goOn 41 = .ok (.dup, 1) := by decide +kernel
theorem dX6_goOn_42 : decode cX6_goOn 42 = .ok (.getfield 27, 3) := by decide +kernel
theorem dX6_goOn_45 : decode cX6_goOn 45 = .ok (.iconst 1, 1) := by decide +kernel
theorem dX6_goOn_46 : decode cX6_goOn 46 = .ok (.iadd, 1) := by decide +kernel
theorem dX6_goOn_47 : decode cX6_goOn 47 = .ok (.putfield 27, 3) := by decide +kernel
theorem dX6_goOn_50 : decode cX6_goOn 50 = .ok (.aload_n 0, 1) := by decide +kernel
theorem dX6_goOn_51 : decode cX6_goOn 51 = .ok (.invokevirtual 33, 3) := by decide +kernel
theorem dX6_goOn_54 : decode cX6_goOn 54 = .ok (.istore_n 1, 1) := by decide +kernel
theorem dX6_goOn_55 : decode cX6_goOn 55 = .ok (.goto (-50), 3) := by decide +kernel
theorem dX6_goOn_58 : decode cX6_goOn 58 = .ok (.iload_n 1, 1) := by decide +kernel
theorem dX6_goOn_59 : decode cX6_goOn 59 = .ok (.ireturn, 1) := by decide +kernel
theorem dX6_lookAt_0 : decode cX6_lookAt 0 = .ok (.iload_n 1, 1) := by decide +kernel
theorem dX6_lookAt_1 : decode cX6_lookAt 1 = .ok (.aload_n 0, 1) := by decide +kernel
theorem dX6_lookAt_2 : decode cX6_lookAt 2 = .ok (.getfield 15, 3) := by decide +kernel
theorem dX6_lookAt_5 : decode cX6_lookAt 5 = .ok (.getfield 50, 3) := by decide +kernel
theorem dX6_lookAt_8 : decode cX6_lookAt 8 = .ok (.if_icmp .eq 18, 3) := by decide +kernel
theorem dX6_lookAt_11 : decode cX6_lookAt 11 = .ok (.aload_n 0, 1) := by decide +kernel
theorem dX6_lookAt_12 : decode cX6_lookAt 12 = .ok (.getfield 9, 3) := by decide +kernel
theorem dX6_lookAt_15 : decode cX6_lookAt 15 = .ok (.iload_n 1, 1) := by decide +kernel
theorem dX6_lookAt_16 : decode cX6_lookAt 16 = .ok (.sipush 804, 3) := by decide +kernel
theorem dX6_lookAt_19 : decode cX6_lookAt 19 = .ok (.invokevirtual 53, 3) := by decide +kernel
theorem dX6_lookAt_22 : decode cX6_lookAt 22 = .ok (.ifCond .ne 4, 3) := by decide +kernel
theorem dX6_lookAt_25 : decode cX6_lookAt 25 = .ok (.return_, 1) := by decide +kernel
theorem dX6_lookAt_26 : decode cX6_lookAt 26 = .ok (.aload_n 0, 1) := by decide +kernel
theorem dX6_lookAt_27 : decode cX6_lookAt 27 = .ok (.dup, 1) := by decide +kernel
theorem dX6_lookAt_28 : decode cX6_lookAt 28 = .ok (.getfield 23, 3) := by decide +kernel
theorem dX6_lookAt_31 : decode cX6_lookAt 31 = .ok (.iconst 1, 1) := by decide +kernel
theorem dX6_lookAt_32 : decode cX6_lookAt 32 = .ok (.iadd, 1) := by decide +kernel
theorem dX6_lookAt_33 : decode cX6_lookAt 33 = .ok (.putfield 23, 3) := by decide +kernel
theorem dX6_lookAt_36 : decode cX6_lookAt 36 = .ok (.aload_n 0, 1) := by decide +kernel
theorem dX6_lookAt_37 : decode cX6_lookAt 37 = .ok (.getfield 9, 3) := by decide +kernel
theorem dX6_lookAt_40 : decode cX6_lookAt 40 = .ok (.getfield 59, 3) := by decide +kernel
theorem dX6_lookAt_43 : decode cX6_lookAt 43 = .ok (.iload_n 1, 1) := by decide +kernel
theorem dX6_lookAt_44 : decode cX6_lookAt 44 = .ok (.iaload, 1) := by decide +kernel
theorem dX6_lookAt_45 : decode cX6_lookAt 45 = .ok (.ifCond .ne 13, 3) := by decide +kernel
theorem dX6_lookAt_48 : decode cX6_lookAt 48 = .ok (.aload_n 0, 1) := by decide +kernel
theorem dX6_lookAt_49 : decode cX6_lookAt 49 = .ok (.iload_n 1, 1) := by decide +kernel
theorem dX6_lookAt_50 : decode cX6_lookAt 50 = .ok (.putfield 30, 3) := by decide +kernel
theorem dX6_lookAt_53 : decode cX6_lookAt 53 = .ok (.aload_n 0, 1) := by decide +kernel
theorem dX6_lookAt_54 : decode cX6_lookAt 54 = .ok (.iconst 0, 1) := by decide +kernel
theorem dX6_lookAt_55 : decode cX6_lookAt 55 = .ok (.putfield 62, 3) := by decide +kernel
theorem dX6_lookAt_58 : decode cX6_lookAt 58 = .ok (.return_, 1) := by decide +kernel
theorem dX6_nextInLeaf_0 : decode cX6_nextInLeaf 0 = .ok (.aload_n 0, 1) := by decide +kernel
theorem dX6_nextInLeaf_1 : decode cX6_nextInLeaf 1 = .ok (.getfield 30, 3) := by decide +kernel
theorem dX6_nextInLeaf_4 : decode cX6_nextInLeaf 4 = .ok (.iconst (-1), 1) := by decide +kernel
theorem dX6_nextInLeaf_5 : decode cX6_nextInLeaf 5 = .ok (.if_icmp .ne 5, 3) := by decide +kernel
theorem dX6_nextInLeaf_8 : decode cX6_nextInLeaf 8 = .ok (.iconst (-1), 1) := by decide +kernel
theorem dX6_nextInLeaf_9 : decode cX6_nextInLeaf 9 = .ok (.ireturn, 1) := by decide +kernel
theorem dX6_nextInLeaf_10 : decode cX6_nextInLeaf 10 = .ok (.aload_n 0, 1) := by decide +kernel
theorem dX6_nextInLeaf_11 : decode cX6_nextInLeaf 11 = .ok (.getfield 62, 3) := by decide +kernel
theorem dX6_nextInLeaf_14 : decode cX6_nextInLeaf 14 = .ok (.aload_n 0, 1) := by decide +kernel
theorem dX6_nextInLeaf_15 : decode cX6_nextInLeaf 15 = .ok (.getfield 9, 3) := by decide +kernel
theorem dX6_nextInLeaf_18 : decode cX6_nextInLeaf 18 = .ok (.getfield 65, 3) := by decide +kernel
theorem dX6_nextInLeaf_21 : decode cX6_nextInLeaf 21 = .ok (.aload_n 0, 1) := by decide +kernel
theorem dX6_nextInLeaf_22 : decode cX6_nextInLeaf 22 = .ok (.getfield 30, 3) := by decide +kernel
theorem dX6_nextInLeaf_25 : decode cX6_nextInLeaf 25 = .ok (.iaload, 1) := by decide +kernel
theorem dX6_nextInLeaf_26 : decode cX6_nextInLeaf 26 = .ok (.if_icmp .ge 48, 3) := by decide +kernel
theorem dX6_nextInLeaf_29 : decode cX6_nextInLeaf 29 = .ok (.aload_n 0, 1) := by decide +kernel
theorem dX6_nextInLeaf_30 : decode cX6_nextInLeaf 30 = .ok (.getfield 9, 3) := by decide +kernel
theorem dX6_nextInLeaf_33 : decode cX6_nextInLeaf 33 = .ok (.aload_n 0, 1) := by decide +kernel
theorem dX6_nextInLeaf_34 : decode cX6_nextInLeaf 34 = .ok (.getfield 30, 3) := by decide +kernel
theorem dX6_nextInLeaf_37 : decode cX6_nextInLeaf 37 = .ok (.aload_n 0, 1) := by decide +kernel
theorem dX6_nextInLeaf_38 : decode cX6_nextInLeaf 38 = .ok (.getfield 62, 3) := by decide +kernel
theorem dX6_nextInLeaf_41 : decode cX6_nextInLeaf 41 = .ok (.invokevirtual 68, 3) := by decide +kernel
theorem dX6_nextInLeaf_44 : decode cX6_nextInLeaf 44 = .ok (.istore_n 1, 1) := by decide +kernel
theorem dX6_nextInLeaf_45 : decode cX6_nextInLeaf 45 = .ok (.aload_n 0, 1) := by decide +kernel
theorem dX6_nextInLeaf_46 : decode cX6_nextInLeaf 46 = .ok (.dup, 1) := by decide +kernel
theorem dX6_nextInLeaf_47 : decode cX6_nextInLeaf 47 = .ok (.getfield 62, 3) := by decide +kernel
theorem dX6_nextInLeaf_50 : decode cX6_nextInLeaf 50 = .ok (.iconst 1, 1) := by decide +kernel
theorem dX6_nextInLeaf_51 : decode cX6_nextInLeaf 51 = .ok (.iadd, 1) := by decide +kernel
theorem dX6_nextInLeaf_52 : decode cX6_nextInLeaf 52 = .ok (.putfield 62, 3) := by decide +kernel
theorem dX6_nextInLeaf_55 : decode cX6_nextInLeaf 55 = .ok (.aload_n 0, 1) := by decide +kernel
theorem dX6_nextInLeaf_56 : decode cX6_nextInLeaf 56 = .ok (.getfield 9, 3) := by decide +kernel
theorem dX6_nextInLeaf_59 : decode cX6_nextInLeaf 59 = .ok (.iload_n 1, 1) := by decide +kernel
theorem dX6_nextInLeaf_60 : decode cX6_nextInLeaf 60 = .ok (.sipush 804, 3) := by decide +kernel
theorem dX6_nextInLeaf_63 : decode cX6_nextInLeaf 63 = .ok (.invokevirtual 53, 3) := by decide +kernel
theorem dX6_nextInLeaf_66 : decode cX6_nextInLeaf 66 = .ok (.ifCond .eq 5, 3) := by decide +kernel
theorem dX6_nextInLeaf_69 : decode cX6_nextInLeaf 69 = .ok (.iload_n 1, 1) := by decide +kernel
theorem dX6_nextInLeaf_70 : decode cX6_nextInLeaf 70 = .ok (.ireturn, 1) := by decide +kernel
theorem dX6_nextInLeaf_71 : decode cX6_nextInLeaf 71 = .ok (.goto (-61), 3) := by decide +kernel
theorem dX6_nextInLeaf_74 : decode cX6_nextInLeaf 74 = .ok (.aload_n 0, 1) := by decide +kernel
theorem dX6_nextInLeaf_75 : decode cX6_nextInLeaf 75 = .ok (.iconst (-1), 1) := by decide +kernel
theorem dX6_nextInLeaf_76 : decode cX6_nextInLeaf 76 = .ok (.putfield 30, 3) := by decide +kernel
theorem dX6_nextInLeaf_79 : decode cX6_nextInLeaf 79 = .ok (.iconst (-1), 1) := by decide +kernel
theorem dX6_nextInLeaf_80 : decode cX6_nextInLeaf 80 = .ok (.ireturn, 1) := by decide +kernel
theorem dX7_init_0 : decode cX7_init 0 = .ok (.aload_n 0, 1) := by decide +kernel
theorem dX7_init_1 : decode cX7_init 1 = .ok (.invokespecial 3, 3) := by decide +kernel
theorem dX7_init_4 : decode cX7_init 4 = .ok (.iconst 4, 1) := by decide +kernel
theorem dX7_init_5 : decode cX7_init 5 = .ok (.bipush 10, 2) := by decide +kernel
theorem dX7_init_7 : decode cX7_init 7 = .ok (.iload_n 1, 1) := by decide +kernel
theorem dX7_init_8 : decode cX7_init 8 = .ok (.invokestatic 9, 3) := by decide +kernel
theorem dX7_init_11 : decode cX7_init 11 = .ok (.invokestatic 15, 3) := by decide +kernel
theorem dX7_init_14 : decode cX7_init 14 = .ok (.istore_n 3, 1) := by decide +kernel
theorem dX7_init_15 : decode cX7_init 15 = .ok (.aload_n 0, 1) := by decide +kernel
theorem dX7_init_16 : decode cX7_init 16 = .ok (.new 18, 3) := by decide +kernel
theorem dX7_init_19 : decode cX7_init 19 = .ok (.dup, 1) := by decide +kernel
theorem dX7_init_20 : decode cX7_init 20 = .ok (.iload_n 3, 1) := by decide +kernel
theorem dX7_init_21 : decode cX7_init 21 = .ok (.iconst 2, 1) := by decide +kernel
theorem dX7_init_22 : decode cX7_init 22 = .ok (.iload_n 3, 1) := by decide +kernel
theorem dX7_init_23 : decode cX7_init 23 = .ok (.iconst 2, 1) := by decide +kernel
theorem dX7_init_24 : decode cX7_init 24 = .ok (.idiv, 1) := by decide +kernel
theorem dX7_init_25 : decode cX7_init 25 = .ok (.iload_n 2, 1) := by decide +kernel
theorem dX7_init_26 : decode cX7_init 26 = .ok (.invokestatic 9, 3) := by decide +kernel
theorem dX7_init_29 : decode cX7_init 29 = .ok (.invokestatic 15, 3) := by decide +kernel
theorem dX7_init_32 : decode cX7_init 32 = .ok (.invokespecial 20, 3) := by decide +kernel
theorem dX7_init_35 : decode cX7_init 35 = .ok (.putfield 23, 3) := by decide +kernel
theorem dX7_init_38 : decode cX7_init 38 = .ok (.aload_n 0, 1) := by decide +kernel
theorem dX7_init_39 : decode cX7_init 39 = .ok (.new 27, 3) := by decide +kernel
theorem dX7_init_42 : decode cX7_init 42 = .ok (.dup, 1) := by decide +kernel
theorem dX7_init_43 : decode cX7_init 43 = .ok (.aload_n 0, 1) := by decide +kernel
theorem dX7_init_44 : decode cX7_init 44 = .ok (.getfield 23, 3) := by decide +kernel
theorem dX7_init_47 : decode cX7_init 47 = .ok (.invokespecial 29, 3) := by decide +kernel
theorem dX7_init_50 : decode cX7_init 50 = .ok (.putfield 32, 3) := by decide +kernel
theorem dX7_init_53 : decode cX7_init 53 = .ok (.aload_n 0, 1) := by decide +kernel
theorem dX7_init_54 : decode cX7_init 54 = .ok (.new 36, 3) := by decide +kernel
theorem dX7_init_57 : decode cX7_init 57 = .ok (.dup, 1) := by decide +kernel
theorem dX7_init_58 : decode cX7_init 58 = .ok (.aload_n 0, 1) := by decide +kernel
theorem dX7_init_59 : decode cX7_init 59 = .ok (.getfield 23, 3) := by decide +kernel
theorem dX7_init_62 : decode cX7_init 62 = .ok (.aload_n 0, 1) := by decide +kernel
theorem dX7_init_63 : decode cX7_init 63 = .ok (.getfield 32, 3) := by decide +kernel
theorem dX7_init_66 : decode cX7_init 66 = .ok (.invokespecial 38, 3) := by decide +kernel
theorem dX7_init_69 : decode cX7_init 69 = .ok (.putfield 41, 3) := by decide +kernel
theorem dX7_init_72 : decode cX7_init 72 = .ok (.aload_n 0, 1) := by decide +kernel
theorem dX7_init_73 : decode cX7_init 73 = .ok (.new 45, 3) := by decide +kernel
theorem dX7_init_76 : decode cX7_init 76 = .ok (.dup, 1) := by decide +kernel
theorem dX7_init_77 : decode cX7_init 77 = .ok (.aload_n 0, 1) := by decide +kernel
theorem dX7_init_78 : decode cX7_init 78 = .ok (.getfield 23, 3) := by decide +kernel
theorem dX7_init_81 : decode cX7_init 81 = .ok (.aload_n 0, 1) := by decide +kernel
theorem dX7_init_82 : decode cX7_init 82 = .ok (.getfield 32, 3) := by decide +kernel
theorem dX7_init_85 : decode cX7_init 85 = .ok (.invokespecial 47, 3) := by decide +kernel
theorem dX7_init_88 : decode cX7_init 88 = .ok (.putfield 48, 3) := by decide +kernel
theorem dX7_init_91 : decode cX7_init 91 = .ok (.aload_n 0, 1) := by decide +kernel
theorem dX7_init_92 : decode cX7_init 92 = .ok (.new 52, 3) := by decide +kernel
theorem dX7_init_95 : decode cX7_init 95 = .ok (.dup, 1) := by decide +kernel
theorem dX7_init_96 : decode cX7_init 96 = .ok (.aload_n 0, 1) := by decide +kernel
theorem dX7_init_97 : decode cX7_init 97 = .ok (.getfield 23, 3) := by decide +kernel
end
section
theorem dX7_init_100 : decode cX7_init 100 = .ok (.aload_n 0, 1) := by decide +kernel
theorem dX7_init_101 : decode cX7_init 101 = .ok (.getfield 32, 3) := by decide +kernel
theorem dX7_init_104 : decode cX7_init 104 = .ok (.invokespecial 54, 3) := by decide +kernel
theorem dX7_init_107 : decode cX7_init 107 = .ok (.putfield 55, 3) := by decide +kernel
theorem dX7_init_110 : decode cX7_init 110 = .ok (.aload_n 0, 1) := by decide +kernel
theorem dX7_init_111 : decode cX7_init 111 = .ok (.new 59, 3) := by decide +kernel
theorem dX7_init_114 : decode cX7_init 114 = .ok (.dup, 1) := by decide +kernel
theorem dX7_init_115 : decode cX7_init 115 = .ok (.aload_n 0, 1) := by decide +kernel
theorem dX7_init_116 : decode cX7_init 116 = .ok (.getfield 23, 3) := by decide +kernel
theorem dX7_init_119 : decode cX7_init 119 = .ok (.aload_n 0, 1) := by decide +kernel
theorem dX7_init_120 : decode cX7_init 120 = .ok (.getfield 32, 3) := by decide +kernel
theorem dX7_init_123 : decode cX7_init 123 = .ok (.invokespecial 61, 3) := by decide +kernel
theorem dX7_init_126 : decode cX7_init 126 = .ok (.putfield 62, 3) := by decide +kernel
theorem dX7_init_129 : decode cX7_init 129 = .ok (.return_, 1) := by decide +kernel
theorem dX7_insert_0 : decode cX7_insert 0 = .ok (.iload_n 1, 1) := by decide +kernel
theorem dX7_insert_1 : decode cX7_insert 1 = .ok (.invokestatic 66, 3) := by decide +kernel
theorem dX7_insert_4 : decode cX7_insert 4 = .ok (.ifCond .eq 15, 3) := by decide +kernel
theorem dX7_insert_7 : decode cX7_insert 7 = .ok (.iload_n 2, 1) := by decide +kernel
theorem dX7_insert_8 : decode cX7_insert 8 = .ok (.iload_n 3, 1) := by decide +kernel
theorem dX7_insert_9 : decode cX7_insert 9 = .ok (.iload 4, 2) := by decide +kernel
theorem dX7_insert_11 : decode cX7_insert 11 = .ok (.iload 5, 2) := by decide +kernel
theorem dX7_insert_13 : decode cX7_insert 13 = .ok (.invokestatic 70, 3) := by decide +kernel
theorem dX7_insert_16 : decode cX7_insert 16 = .ok (.ifCond .ne 5, 3) := by decide +kernel
theorem dX7_insert_19 : decode cX7_insert 19 = .ok (.iconst (-1), 1) := by decide +kernel
theorem dX7_insert_20 : decode cX7_insert 20 = .ok (.ireturn, 1) := by decide +kernel
theorem dX7_insert_21 : decode cX7_insert 21 = .ok (.aload_n 0, 1) := by decide +kernel
theorem dX7_insert_22 : decode cX7_insert 22 = .ok (.getfield 23, 3) := by decide +kernel
theorem dX7_insert_25 : decode cX7_insert 25 = .ok (.sipush 805, 3) := by decide +kernel
theorem dX7_insert_28 : decode cX7_insert 28 = .ok (.iload_n 1, 1) := by decide +kernel
theorem dX7_insert_29 : decode cX7_insert 29 = .ok (.iload_n 2, 1) := by decide +kernel
theorem dX7_insert_30 : decode cX7_insert 30 = .ok (.iload_n 3, 1) := by decide +kernel
theorem dX7_insert_31 : decode cX7_insert 31 = .ok (.iload 4, 2) := by decide +kernel
theorem dX7_insert_33 : decode cX7_insert 33 = .ok (.iload 5, 2) := by decide +kernel
theorem dX7_insert_35 : decode cX7_insert 35 = .ok (.invokevirtual 74, 3) := by decide +kernel
theorem dX7_insert_38 : decode cX7_insert 38 = .ok (.aload_n 0, 1) := by decide +kernel
theorem dX7_insert_39 : decode cX7_insert 39 = .ok (.getfield 23, 3) := by decide +kernel
theorem dX7_insert_42 : decode cX7_insert 42 = .ok (.sipush 805, 3) := by decide +kernel
theorem dX7_insert_45 : decode cX7_insert 45 = .ok (.invokevirtual 78, 3) := by decide +kernel
theorem dX7_insert_48 : decode cX7_insert 48 = .ok (.iconst (-1), 1) := by decide +kernel
theorem dX7_insert_49 : decode cX7_insert 49 = .ok (.if_icmp .eq 6, 3) := by decide +kernel
theorem dX7_insert_52 : decode cX7_insert 52 = .ok (.bipush (-2), 2) := by decide +kernel
theorem dX7_insert_54 : decode cX7_insert 54 = .ok (.ireturn, 1) := by decide +kernel
theorem dX7_insert_55 : decode cX7_insert 55 = .ok (.aload_n 0, 1) := by decide +kernel
theorem dX7_insert_56 : decode cX7_insert 56 = .ok (.getfield 23, 3) := by decide +kernel
theorem dX7_insert_59 : decode cX7_insert 59 = .ok (.getfield 82, 3) := by decide +kernel
theorem dX7_insert_62 : decode cX7_insert 62 = .ok (.sipush 400, 3) := by decide +kernel
theorem dX7_insert_65 : decode cX7_insert 65 = .ok (.if_icmp .lt 6, 3) := by decide +kernel
theorem dX7_insert_68 : decode cX7_insert 68 = .ok (.bipush (-3), 2) := by decide +kernel
theorem dX7_insert_70 : decode cX7_insert 70 = .ok (.ireturn, 1) := by decide +kernel
theorem dX7_insert_71 : decode cX7_insert 71 = .ok (.aload_n 0, 1) := by decide +kernel
theorem dX7_insert_72 : decode cX7_insert 72 = .ok (.getfield 48, 3) := by decide +kernel
theorem dX7_insert_75 : decode cX7_insert 75 = .ok (.invokevirtual 86, 3) := by decide +kernel
theorem dX7_insert_78 : decode cX7_insert 78 = .ok (.aload_n 0, 1) := by decide +kernel
theorem dX7_insert_79 : decode cX7_insert 79 = .ok (.getfield 32, 3) := by decide +kernel
theorem dX7_insert_82 : decode cX7_insert 82 = .ok (.aload_n 0, 1) := by decide +kernel
theorem dX7_insert_83 : decode cX7_insert 83 = .ok (.getfield 23, 3) := by decide +kernel
theorem dX7_insert_86 : decode cX7_insert 86 = .ok (.sipush 805, 3) := by decide +kernel
theorem dX7_insert_89 : decode cX7_insert 89 = .ok (.invokevirtual 89, 3) := by decide +kernel
theorem dX7_insert_92 : decode cX7_insert 92 = .ok (.invokevirtual 92, 3) := by decide +kernel
theorem dX7_insert_95 : decode cX7_insert 95 = .ok (.aload_n 0, 1) := by decide +kernel
theorem dX7_insert_96 : decode cX7_insert 96 = .ok (.getfield 32, 3) := by decide +kernel
theorem dX7_insert_99 : decode cX7_insert 99 = .ok (.invokevirtual 96, 3) := by decide +kernel
theorem dX7_insert_102 : decode cX7_insert 102 = .ok (.aload_n 0, 1) := by decide +kernel
theorem dX7_insert_103 : decode cX7_insert 103 = .ok (.getfield 23, 3) := by decide +kernel
theorem dX7_insert_106 : decode cX7_insert 106 = .ok (.getfield 82, 3) := by decide +kernel
theorem dX7_insert_109 : decode cX7_insert 109 = .ok (.ireturn, 1) := by decide +kernel
theorem dX7_remove_0 : decode cX7_remove 0 = .ok (.iload_n 1, 1) := by decide +kernel
theorem dX7_remove_1 : decode cX7_remove 1 = .ok (.invokestatic 66, 3) := by decide +kernel
theorem dX7_remove_4 : decode cX7_remove 4 = .ok (.ifCond .eq 15, 3) := by decide +kernel
theorem dX7_remove_7 : decode cX7_remove 7 = .ok (.iload_n 2, 1) := by decide +kernel
theorem dX7_remove_8 : decode cX7_remove 8 = .ok (.iload_n 3, 1) := by decide +kernel
theorem dX7_remove_9 : decode cX7_remove 9 = .ok (.iload 4, 2) := by decide +kernel
theorem dX7_remove_11 : decode cX7_remove 11 = .ok (.iload 5, 2) := by decide +kernel
theorem dX7_remove_13 : decode cX7_remove 13 = .ok (.invokestatic 70, 3) := by decide +kernel
theorem dX7_remove_16 : decode cX7_remove 16 = .ok (.ifCond .ne 5, 3) := by decide +kernel
theorem dX7_remove_19 : decode cX7_remove 19 = .ok (.iconst (-1), 1) := by decide +kernel
theorem dX7_remove_20 : decode cX7_remove 20 = .ok (.ireturn, 1) := by decide +kernel
theorem dX7_remove_21 : decode cX7_remove 21 = .ok (.aload_n 0, 1) := by decide +kernel
theorem dX7_remove_22 : decode cX7_remove 22 = .ok (.getfield 23, 3) := by decide +kernel
theorem dX7_remove_25 : decode cX7_remove 25 = .ok (.sipush 805, 3) := by decide +kernel
theorem dX7_remove_28 : decode cX7_remove 28 = .ok (.iload_n 1, 1) := by decide +kernel
theorem dX7_remove_29 : decode cX7_remove 29 = .ok (.iload_n 2, 1) := by decide +kernel
theorem dX7_remove_30 : decode cX7_remove 30 = .ok (.iload_n 3, 1) := by decide +kernel
theorem dX7_remove_31 : decode cX7_remove 31 = .ok (.iload 4, 2) := by decide +kernel
theorem dX7_remove_33 : decode cX7_remove 33 = .ok (.iload 5, 2) := by decide +kernel
theorem dX7_remove_35 : decode cX7_remove 35 = .ok (.invokevirtual 74, 3) := by decide +kernel
theorem dX7_remove_38 : decode cX7_remove 38 = .ok (.aload_n 0, 1) := by decide +kernel
theorem dX7_remove_39 : decode cX7_remove 39 = .ok (.getfield 23, 3) := by decide +kernel
theorem dX7_remove_42 : decode cX7_remove 42 = .ok (.sipush 805, 3) := by decide +kernel
theorem dX7_remove_45 : decode cX7_remove 45 = .ok (.invokevirtual 78, 3) := by decide +kernel
theorem dX7_remove_48 : decode cX7_remove 48 = .ok (.istore 6, 2) := by decide +kernel
theorem dX7_remove_50 : decode cX7_remove 50 = .ok (.iload 6, 2) := by decide +kernel
theorem dX7_remove_52 : decode cX7_remove 52 = .ok (.iconst (-1), 1) := by decide +kernel
theorem dX7_remove_53 : decode cX7_remove 53 = .ok (.if_icmp .ne 6, 3) := by decide +kernel
theorem dX7_remove_56 : decode cX7_remove 56 = .ok (.bipush (-2), 2) := by decide +kernel
theorem dX7_remove_58 : decode cX7_remove 58 = .ok (.ireturn, 1) := by decide +kernel
theorem dX7_remove_59 : decode cX7_remove 59 = .ok (.aload_n 0, 1) := by decide +kernel
theorem dX7_remove_60 : decode cX7_remove 60 = .ok (.getfield 48, 3) := by decide +kernel
theorem dX7_remove_63 : decode cX7_remove 63 = .ok (.invokevirtual 86, 3) := by decide +kernel
theorem dX7_remove_66 : decode cX7_remove 66 = .ok (.aload_n 0, 1) := by decide +kernel
theorem dX7_remove_67 : decode cX7_remove 67 = .ok (.getfield 32, 3) := by decide +kernel
theorem dX7_remove_70 : decode cX7_remove 70 = .ok (.iload 6, 2) := by decide +kernel
theorem dX7_remove_72 : decode cX7_remove 72 = .ok (.invokevirtual 99, 3) := by decide +kernel
theorem dX7_remove_75 : decode cX7_remove 75 = .ok (.aload_n 0, 1) := by decide +kernel
theorem dX7_remove_76 : decode cX7_remove 76 = .ok (.getfield 32, 3) := by decide +kernel
theorem dX7_remove_79 : decode cX7_remove 79 = .ok (.invokevirtual 96, 3) := by decide +kernel
theorem dX7_remove_82 : decode cX7_remove 82 = .ok (.aload_n 0, 1) := by decide +kernel
theorem dX7_remove_83 : decode cX7_remove 83 = .ok (.getfield 23, 3) := by decide +kernel
theorem dX7_remove_86 : decode cX7_remove 86 = .ok (.getfield 82, 3) := by decide +kernel
theorem dX7_remove_89 : decode cX7_remove 89 = .ok (.ireturn, 1) := by decide +kernel
theorem dX7_window_0 : decode cX7_window 0 = .ok (.iload_n 1, 1) := by decide +kernel
theorem dX7_window_1 : decode cX7_window 1 = .ok (.iload_n 2, 1) := by decide +kernel
theorem dX7_window_2 : decode cX7_window 2 = .ok (.iload_n 3, 1) := by decide +kernel
theorem dX7_window_3 : decode cX7_window 3 = .ok (.iload 4, 2) := by decide +kernel
theorem dX7_window_5 : decode cX7_window 5 = .ok (.invokestatic 70, 3) := by decide +kernel
theorem dX7_window_8 : decode cX7_window 8 = .ok (.ifCond .ne 5, 3) := by decide +kernel
theorem dX7_window_11 : decode cX7_window 11 = .ok (.iconst (-1), 1) := by decide +kernel
theorem dX7_window_12 : decode cX7_window 12 = .ok (.ireturn, 1) := by decide +kernel
theorem dX7_window_13 : decode cX7_window 13 = .ok (.aload_n 0, 1) := by decide +kernel
theorem dX7_window_14 : decode cX7_window 14 = .ok (.getfield 23, 3) := by decide +kernel
theorem dX7_window_17 : decode cX7_window 17 = .ok (.sipush 804, 3) := by decide +kernel
theorem dX7_window_20 : decode cX7_window 20 = .ok (.iconst (-1), 1) := by decide +kernel
theorem dX7_window_21 : decode cX7_window 21 = .ok (.iload_n 1, 1) := by decide +kernel
theorem dX7_window_22 : decode cX7_window 22 = .ok (.iload_n 2, 1) := by decide +kernel
theorem dX7_window_23 : decode cX7_window 23 = .ok (.iload_n 3, 1) := by decide +kernel
theorem dX7_window_24 : decode cX7_window 24 = .ok (.iload 4, 2) := by decide +kernel
theorem dX7_window_26 : decode cX7_window 26 = .ok (.invokevirtual 74, 3) := by decide +kernel
theorem dX7_window_29 : decode cX7_window 29 = .ok (.aload_n 0, 1) := by decide +kernel
theorem dX7_window_30 : decode cX7_window 30 = .ok (.getfield 48, 3) := by decide +kernel
theorem dX7_window_33 : decode cX7_window 33 = .ok (.invokevirtual 102, 3) := by decide +kernel
theorem dX7_window_36 : decode cX7_window 36 = .ok (.iconst 0, 1) := by decide +kernel
theorem dX7_window_37 : decode cX7_window 37 = .ok (.ireturn, 1) := by decide +kernel
theorem dX7_next_0 : decode cX7_next 0 = .ok (.aload_n 0, 1) := by decide +kernel
theorem dX7_next_1 : decode cX7_next 1 = .ok (.getfield 48, 3) := by decide +kernel
theorem dX7_next_4 : decode cX7_next 4 = .ok (.getfield 105, 3) := by decide +kernel
theorem dX7_next_7 : decode cX7_next 7 = .ok (.ifCond .ne 5, 3) := by decide +kernel
theorem dX7_next_10 : decode cX7_next 10 = .ok (.iconst (-1), 1) := by decide +kernel
theorem dX7_next_11 : decode cX7_next 11 = .ok (.ireturn, 1) := by decide +kernel
theorem dX7_next_12 : decode cX7_next 12 = .ok (.aload_n 0, 1) := by decide +kernel
theorem dX7_next_13 : decode cX7_next 13 = .ok (.getfield 48, 3) := by decide +kernel
theorem dX7_next_16 : decode cX7_next 16 = .ok (.invokevirtual 109, 3) := by decide +kernel
theorem dX7_next_19 : decode cX7_next 19 = .ok (.istore_n 1, 1) := by decide +kernel
theorem dX7_next_20 : decode cX7_next 20 = .ok (.iload_n 1, 1) := by decide +kernel
theorem dX7_next_21 : decode cX7_next 21 = .ok (.iconst (-1), 1) := by decide +kernel
theorem dX7_next_22 : decode cX7_next 22 = .ok (.if_icmp .ne 8, 3) := by decide +kernel
theorem dX7_next_25 : decode cX7_next 25 = .ok (.bipush (-2), 2) := by decide +kernel
theorem dX7_next_27 : decode cX7_next 27 = .ok (.goto 12, 3) := by decide +kernel
theorem dX7_next_30 : decode cX7_next 30 = .ok (.aload_n 0, 1) := by decide +kernel
theorem dX7_next_31 : decode cX7_next 31 = .ok (.getfield 23, 3) := by decide +kernel
theorem dX7_next_34 : decode cX7_next 34 = .ok (.getfield 113, 3) := by decide +kernel
theorem dX7_next_37 : decode cX7_next 37 = .ok (.iload_n 1, 1) := by decide +kernel
theorem dX7_next_38 : decode cX7_next 38 = .ok (.iaload, 1) := by decide +kernel
theorem dX7_next_39 : decode cX7_next 39 = .ok (.ireturn, 1) := by decide +kernel
theorem dX7_countIn_0 : decode cX7_countIn 0 = .ok (.iload_n 1, 1) := by decide +kernel
theorem dX7_countIn_1 : decode cX7_countIn 1 = .ok (.iload_n 2, 1) := by decide +kernel
theorem dX7_countIn_2 : decode cX7_countIn 2 = .ok (.iload_n 3, 1) := by decide +kernel
theorem dX7_countIn_3 : decode cX7_countIn 3 = .ok (.iload 4, 2) := by decide +kernel
theorem dX7_countIn_5 : decode cX7_countIn 5 = .ok (.invokestatic 70, 3) := by decide +kernel
theorem dX7_countIn_8 : decode cX7_countIn 8 = .ok (.ifCond .ne 5, 3) := by decide +kernel
theorem dX7_countIn_11 : decode cX7_countIn 11 = .ok (.iconst (-1), 1) := by decide +kernel
theorem dX7_countIn_12 : decode cX7_countIn 12 = .ok (.ireturn, 1) := by decide +kernel
theorem dX7_countIn_13 : decode cX7_countIn 13 = .ok (.aload_n 0, 1) := by decide +kernel
theorem dX7_countIn_14 : decode cX7_countIn 14 = .ok (.getfield 23, 3) := by decide +kernel
theorem dX7_countIn_17 : decode cX7_countIn 17 = .ok (.sipush 805, 3) := by decide +kernel
theorem dX7_countIn_20 : decode cX7_countIn 20 = .ok (.iconst (-1), 1) := by decide +kernel
theorem dX7_countIn_21 : decode cX7_countIn 21 = .ok (.iload_n 1, 1) := by decide +kernel
theorem dX7_countIn_22 : decode cX7_countIn 22 = .ok (.iload_n 2, 1) := by decide +kernel
theorem dX7_countIn_23 : decode cX7_countIn 23 = .ok (.iload_n 3, 1) := by decide +kernel
theorem dX7_countIn_24 : decode cX7_countIn 24 = .ok (.iload 4, 2) := by decide +kernel
theorem dX7_countIn_26 : decode cX7_countIn 26 = .ok (.invokevirtual 74, 3) := by decide +kernel
theorem dX7_countIn_29 : decode cX7_countIn 29 = .ok (.aload_n 0, 1) := by decide +kernel
theorem dX7_countIn_30 : decode cX7_countIn 30 = .ok (.getfield 23, 3) := by decide +kernel
theorem dX7_countIn_33 : decode cX7_countIn 33 = .ok (.sipush 805, 3) := by decide +kernel
theorem dX7_countIn_36 : decode cX7_countIn 36 = .ok (.iconst 0, 1) := by decide +kernel
theorem dX7_countIn_37 : decode cX7_countIn 37 = .ok (.invokevirtual 117, 3) := by decide +kernel
theorem dX7_countIn_40 : decode cX7_countIn 40 = .ok (.ireturn, 1) := by decide +kernel
theorem dX7_nearest_0 : decode cX7_nearest 0 = .ok (.iload_n 1, 1) := by decide +kernel
theorem dX7_nearest_1 : decode cX7_nearest 1 = .ok (.invokestatic 120, 3) := by decide +kernel
theorem dX7_nearest_4 : decode cX7_nearest 4 = .ok (.ifCond .eq 25, 3) := by decide +kernel
theorem dX7_nearest_7 : decode cX7_nearest 7 = .ok (.iload_n 2, 1) := by decide +kernel
theorem dX7_nearest_8 : decode cX7_nearest 8 = .ok (.invokestatic 120, 3) := by decide +kernel
theorem dX7_nearest_11 : decode cX7_nearest 11 = .ok (.ifCond .eq 18, 3) := by decide +kernel
theorem dX7_nearest_14 : decode cX7_nearest 14 = .ok (.iload_n 3, 1) := by decide +kernel
theorem dX7_nearest_15 : decode cX7_nearest 15 = .ok (.ifCond .lt 14, 3) := by decide +kernel
theorem dX7_nearest_18 : decode cX7_nearest 18 = .ok (.iload_n 3, 1) := by decide +kernel
theorem dX7_nearest_19 : decode cX7_nearest 19 = .ok (.aload_n 0, 1) := by decide +kernel
theorem dX7_nearest_20 : decode cX7_nearest 20 = .ok (.getfield 23, 3) := by decide +kernel
theorem dX7_nearest_23 : decode cX7_nearest 23 = .ok (.getfield 82, 3) := by decide +kernel
theorem dX7_nearest_26 : decode cX7_nearest 26 = .ok (.if_icmp .lt 5, 3) := by decide +kernel
theorem dX7_nearest_29 : decode cX7_nearest 29 = .ok (.iconst (-1), 1) := by decide +kernel
theorem dX7_nearest_30 : decode cX7_nearest 30 = .ok (.ireturn, 1) := by decide +kernel
theorem dX7_nearest_31 : decode cX7_nearest 31 = .ok (.aload_n 0, 1) := by decide +kernel
theorem dX7_nearest_32 : decode cX7_nearest 32 = .ok (.getfield 55, 3) := by decide +kernel
theorem dX7_nearest_35 : decode cX7_nearest 35 = .ok (.iload_n 1, 1) := by decide +kernel
theorem dX7_nearest_36 : decode cX7_nearest 36 = .ok (.iload_n 2, 1) := by decide +kernel
theorem dX7_nearest_37 : decode cX7_nearest 37 = .ok (.iload_n 3, 1) := by decide +kernel
theorem dX7_nearest_38 : decode cX7_nearest 38 = .ok (.invokevirtual 123, 3) := by decide +kernel
theorem dX7_nearest_41 : decode cX7_nearest 41 = .ok (.istore 4, 2) := by decide +kernel
theorem dX7_nearest_43 : decode cX7_nearest 43 = .ok (.iload 4, 2) := by decide +kernel
theorem dX7_nearest_45 : decode cX7_nearest 45 = .ok (.iconst (-1), 1) := by decide +kernel
theorem dX7_nearest_46 : decode cX7_nearest 46 = .ok (.if_icmp .ne 7, 3) := by decide +kernel
theorem dX7_nearest_49 : decode cX7_nearest 49 = .ok (.iconst (-1), 1) := by decide +kernel
theorem dX7_nearest_50 : decode cX7_nearest 50 = .ok (.goto 13, 3) := by decide +kernel
theorem dX7_nearest_53 : decode cX7_nearest 53 = .ok (.aload_n 0, 1) := by decide +kernel
theorem dX7_nearest_54 : decode cX7_nearest 54 = .ok (.getfield 23, 3) := by decide +kernel
theorem dX7_nearest_57 : decode cX7_nearest 57 = .ok (.getfield 113, 3) := by decide +kernel
theorem dX7_nearest_60 : decode cX7_nearest 60 = .ok (.iload 4, 2) := by decide +kernel
theorem dX7_nearest_62 : decode cX7_nearest 62 = .ok (.iaload, 1) := by decide +kernel
theorem dX7_nearest_63 : decode cX7_nearest 63 = .ok (.ireturn, 1) := by decide +kernel
theorem dX7_distance_0 : decode cX7_distance 0 = .ok (.aload_n 0, 1) := by decide +kernel
theorem dX7_distance_1 : decode cX7_distance 1 = .ok (.getfield 55, 3) := by decide +kernel
theorem dX7_distance_4 : decode cX7_distance 4 = .ok (.getfield 127, 3) := by decide +kernel
theorem dX7_distance_7 : decode cX7_distance 7 = .ok (.ireturn, 1) := by decide +kernel
theorem dX7_pairs_0 : decode cX7_pairs 0 = .ok (.iconst 0, 1) := by decide +kernel
theorem dX7_pairs_1 : decode cX7_pairs 1 = .ok (.istore_n 1, 1) := by decide +kernel
theorem dX7_pairs_2 : decode cX7_pairs 2 = .ok (.iconst 0, 1) := by decide +kernel
theorem dX7_pairs_3 : decode cX7_pairs 3 = .ok (.istore_n 2, 1) := by decide +kernel
theorem dX7_pairs_4 : decode cX7_pairs 4 = .ok (.iload_n 2, 1) := by decide +kernel
theorem dX7_pairs_5 : decode cX7_pairs 5 = .ok (.aload_n 0, 1) := by decide +kernel
theorem dX7_pairs_6 : decode cX7_pairs 6 = .ok (.getfield 23, 3) := by decide +kernel
theorem dX7_pairs_9 : decode cX7_pairs 9 = .ok (.getfield 130, 3) := by decide +kernel
theorem dX7_pairs_12 : decode cX7_pairs 12 = .ok (.if_icmp .ge 34, 3) := by decide +kernel
theorem dX7_pairs_15 : decode cX7_pairs 15 = .ok (.aload_n 0, 1) := by decide +kernel
theorem dX7_pairs_16 : decode cX7_pairs 16 = .ok (.getfield 23, 3) := by decide +kernel
theorem dX7_pairs_19 : decode cX7_pairs 19 = .ok (.iload_n 2, 1) := by decide +kernel
theorem dX7_pairs_20 : decode cX7_pairs 20 = .ok (.invokevirtual 133, 3) := by decide +kernel
theorem dX7_pairs_23 : decode cX7_pairs 23 = .ok (.ifCond .eq 17, 3) := by decide +kernel
theorem dX7_pairs_26 : decode cX7_pairs 26 = .ok (.iload_n 1, 1) := by decide +kernel
theorem dX7_pairs_27 : decode cX7_pairs 27 = .ok (.aload_n 0, 1) := by decide +kernel
theorem dX7_pairs_28 : decode cX7_pairs 28 = .ok (.getfield 23, 3) := by decide +kernel
theorem dX7_pairs_31 : decode cX7_pairs 31 = .ok (.iload_n 2, 1) := by decide +kernel
theorem dX7_pairs_32 : decode cX7_pairs 32 = .ok (.iload_n 2, 1) := by decide +kernel
theorem dX7_pairs_33 : decode cX7_pairs 33 = .ok (.iconst 1, 1) := by decide +kernel
theorem dX7_pairs_34 : decode cX7_pairs 34 = .ok (.iadd, 1) := by decide +kernel
theorem dX7_pairs_35 : decode cX7_pairs 35 = .ok (.invokevirtual 117, 3) := by decide +kernel
theorem dX7_pairs_38 : decode cX7_pairs 38 = .ok (.iadd, 1) := by decide +kernel
theorem dX7_pairs_39 : decode cX7_pairs 39 = .ok (.istore_n 1, 1) := by decide +kernel
theorem dX7_pairs_40 : decode cX7_pairs 40 = .ok (.iinc 2 1, 3) := by decide +kernel
theorem dX7_pairs_43 : decode cX7_pairs 43 = .ok (.goto (-39), 3) := by decide +kernel
theorem dX7_pairs_46 : decode cX7_pairs 46 = .ok (.iload_n 1, 1) := by decide +kernel
theorem dX7_pairs_47 : decode cX7_pairs 47 = .ok (.ireturn, 1) := by decide +kernel
theorem dX7_visited_0 : decode cX7_visited 0 = .ok (.iload_n 1, 1) := by decide +kernel
theorem dX7_visited_1 : decode cX7_visited 1 = .ok (.tableswitch 65 0 2 #[27, 49, 57], 27) := by decide +kernel
theorem dX7_visited_28 : decode cX7_visited 28 = .ok (.aload_n 0, 1) := by decide +kernel
theorem dX7_visited_29 : decode cX7_visited 29 = .ok (.getfield 48, 3) := by decide +kernel
theorem dX7_visited_32 : decode cX7_visited 32 = .ok (.getfield 105, 3) := by decide +kernel
theorem dX7_visited_35 : decode cX7_visited 35 = .ok (.ifCond .eq 13, 3) := by decide +kernel
theorem dX7_visited_38 : decode cX7_visited 38 = .ok (.aload_n 0, 1) := by decide +kernel
theorem dX7_visited_39 : decode cX7_visited 39 = .ok (.getfield 48, 3) := by decide +kernel
theorem dX7_visited_42 : decode cX7_visited 42 = .ok (.getfield 136, 3) := by decide +kernel
theorem dX7_visited_45 : decode cX7_visited 45 = .ok (.goto 4, 3) := by decide +kernel
theorem dX7_visited_48 : decode cX7_visited 48 = .ok (.iconst (-1), 1) := by decide +kernel
theorem dX7_visited_49 : decode cX7_visited 49 = .ok (.ireturn, 1) := by decide +kernel
theorem dX7_visited_50 : decode cX7_visited 50 = .ok (.aload_n 0, 1) := by decide +kernel
theorem dX7_visited_51 : decode cX7_visited 51 = .ok (.getfield 55, 3) := by decide +kernel
theorem dX7_visited_54 : decode cX7_visited 54 = .ok (.getfield 139, 3) := by decide +kernel
theorem dX7_visited_57 : decode cX7_visited 57 = .ok (.ireturn, 1) := by decide +kernel
theorem dX7_visited_58 : decode cX7_visited 58 = .ok (.aload_n 0, 1) := by decide +kernel
theorem dX7_visited_59 : decode cX7_visited 59 = .ok (.getfield 32, 3) := by decide +kernel
theorem dX7_visited_62 : decode cX7_visited 62 = .ok (.invokevirtual 140, 3) := by decide +kernel
theorem dX7_visited_65 : decode cX7_visited 65 = .ok (.ireturn, 1) := by decide +kernel
theorem dX7_visited_66 : decode cX7_visited 66 = .ok (.iconst (-1), 1) := by decide +kernel
theorem dX7_visited_67 : decode cX7_visited 67 = .ok (.ireturn, 1) := by decide +kernel
theorem dX7_pack_0 : decode cX7_pack 0 = .ok (.aload_n 0, 1) := by decide +kernel
theorem dX7_pack_1 : decode cX7_pack 1 = .ok (.getfield 48, 3) := by decide +kernel
theorem dX7_pack_4 : decode cX7_pack 4 = .ok (.invokevirtual 86, 3) := by decide +kernel
theorem dX7_pack_7 : decode cX7_pack 7 = .ok (.aload_n 0, 1) := by decide +kernel
theorem dX7_pack_8 : decode cX7_pack 8 = .ok (.getfield 41, 3) := by decide +kernel
theorem dX7_pack_11 : decode cX7_pack 11 = .ok (.invokevirtual 143, 3) := by decide +kernel
theorem dX7_pack_14 : decode cX7_pack 14 = .ok (.aload_n 0, 1) := by decide +kernel
theorem dX7_pack_15 : decode cX7_pack 15 = .ok (.getfield 32, 3) := by decide +kernel
theorem dX7_pack_18 : decode cX7_pack 18 = .ok (.invokevirtual 96, 3) := by decide +kernel
theorem dX7_pack_21 : decode cX7_pack 21 = .ok (.aload_n 0, 1) := by decide +kernel
theorem dX7_pack_22 : decode cX7_pack 22 = .ok (.getfield 32, 3) := by decide +kernel
theorem dX7_pack_25 : decode cX7_pack 25 = .ok (.getfield 146, 3) := by decide +kernel
theorem dX7_pack_28 : decode cX7_pack 28 = .ok (.ireturn, 1) := by decide +kernel
theorem dX7_clear_0 : decode cX7_clear 0 = .ok (.aload_n 0, 1) := by decide +kernel
theorem dX7_clear_1 : decode cX7_clear 1 = .ok (.getfield 23, 3) := by decide +kernel
theorem dX7_clear_4 : decode cX7_clear 4 = .ok (.getfield 82, 3) := by decide +kernel
theorem dX7_clear_7 : decode cX7_clear 7 = .ok (.istore_n 1, 1) := by decide +kernel
theorem dX7_clear_8 : decode cX7_clear 8 = .ok (.aload_n 0, 1) := by decide +kernel
theorem dX7_clear_9 : decode cX7_clear 9 = .ok (.getfield 48, 3) := by decide +kernel
theorem dX7_clear_12 : decode cX7_clear 12 = .ok (.invokevirtual 86, 3) := by decide +kernel
theorem dX7_clear_15 : decode cX7_clear 15 = .ok (.aload_n 0, 1) := by decide +kernel
theorem dX7_clear_16 : decode cX7_clear 16 = .ok (.getfield 23, 3) := by decide +kernel
theorem dX7_clear_19 : decode cX7_clear 19 = .ok (.invokevirtual 149, 3) := by decide +kernel
theorem dX7_clear_22 : decode cX7_clear 22 = .ok (.aload_n 0, 1) := by decide +kernel
theorem dX7_clear_23 : decode cX7_clear 23 = .ok (.getfield 32, 3) := by decide +kernel
theorem dX7_clear_26 : decode cX7_clear 26 = .ok (.invokevirtual 152, 3) := by decide +kernel
theorem dX7_clear_29 : decode cX7_clear 29 = .ok (.iload_n 1, 1) := by decide +kernel
theorem dX7_clear_30 : decode cX7_clear 30 = .ok (.ireturn, 1) := by decide +kernel
theorem dX7_count_0 : decode cX7_count 0 = .ok (.iload_n 1, 1) := by decide +kernel
theorem dX7_count_1 : decode cX7_count 1 = .ok (.tableswitch 121 0 7 #[47, 55, 73, 81, 89, 97, 105, 113], 47) := by decide +kernel
theorem dX7_count_48 : decode cX7_count 48 = .ok (.aload_n 0, 1) := by decide +kernel
theorem dX7_count_49 : decode cX7_count 49 = .ok (.getfield 23, 3) := by decide +kernel
theorem dX7_count_52 : decode cX7_count 52 = .ok (.getfield 82, 3) := by decide +kernel
theorem dX7_count_55 : decode cX7_count 55 = .ok (.ireturn, 1) := by decide +kernel
theorem dX7_count_56 : decode cX7_count 56 = .ok (.aload_n 0, 1) := by decide +kernel
theorem dX7_count_57 : decode cX7_count 57 = .ok (.getfield 23, 3) := by decide +kernel
theorem dX7_count_60 : decode cX7_count 60 = .ok (.getfield 155, 3) := by decide +kernel
theorem dX7_count_63 : decode cX7_count 63 = .ok (.aload_n 0, 1) := by decide +kernel
theorem dX7_count_64 : decode cX7_count 64 = .ok (.getfield 32, 3) := by decide +kernel
theorem dX7_count_67 : decode cX7_count 67 = .ok (.getfield 158, 3) := by decide +kernel
theorem dX7_count_70 : decode cX7_count 70 = .ok (.iaload, 1) := by decide +kernel
theorem dX7_count_71 : decode cX7_count 71 = .ok (.iconst 1, 1) := by decide +kernel
theorem dX7_count_72 : decode cX7_count 72 = .ok (.iadd, 1) := by decide +kernel
theorem dX7_count_73 : decode cX7_count 73 = .ok (.ireturn, 1) := by decide +kernel
theorem dX7_count_74 : decode cX7_count 74 = .ok (.aload_n 0, 1) := by decide +kernel
theorem dX7_count_75 : decode cX7_count 75 = .ok (.getfield 32, 3) := by decide +kernel
theorem dX7_count_78 : decode cX7_count 78 = .ok (.getfield 146, 3) := by decide +kernel
theorem dX7_count_81 : decode cX7_count 81 = .ok (.ireturn, 1) := by decide +kernel
theorem dX7_count_82 : decode cX7_count 82 = .ok (.aload_n 0, 1) := by decide +kernel
theorem dX7_count_83 : decode cX7_count 83 = .ok (.getfield 32, 3) := by decide +kernel
theorem dX7_count_86 : decode cX7_count 86 = .ok (.getfield 161, 3) := by decide +kernel
theorem dX7_count_89 : decode cX7_count 89 = .ok (.ireturn, 1) := by decide +kernel
theorem dX7_count_90 : decode cX7_count 90 = .ok (.aload_n 0, 1) := by decide +kernel
theorem dX7_count_91 : decode cX7_count 91 = .ok (.getfield 32, 3) := by decide +kernel
theorem dX7_count_94 : decode cX7_count 94 = .ok (.getfield 164, 3) := by decide +kernel
theorem dX7_count_97 : decode cX7_count 97 = .ok (.ireturn, 1) := by decide +kernel
theorem dX7_count_98 : decode cX7_count 98 = .ok (.aload_n 0, 1) := by decide +kernel
theorem dX7_count_99 : decode cX7_count 99 = .ok (.getfield 32, 3) := by decide +kernel
theorem dX7_count_102 : decode cX7_count 102 = .ok (.getfield 167, 3) := by decide +kernel
theorem dX7_count_105 : decode cX7_count 105 = .ok (.ireturn, 1) := by decide +kernel
theorem dX7_count_106 : decode cX7_count 106 = .ok (.aload_n 0, 1) := by decide +kernel
theorem dX7_count_107 : decode cX7_count 107 = .ok (.getfield 23, 3) := by decide +kernel
theorem dX7_count_110 : decode cX7_count 110 = .ok (.getfield 170, 3) := by decide +kernel
theorem dX7_count_113 : decode cX7_count 113 = .ok (.ireturn, 1) := by decide +kernel
theorem dX7_count_114 : decode cX7_count 114 = .ok (.aload_n 0, 1) := by decide +kernel
theorem dX7_count_115 : decode cX7_count 115 = .ok (.getfield 23, 3) := by decide +kernel
theorem dX7_count_118 : decode cX7_count 118 = .ok (.getfield 173, 3) := by decide +kernel
theorem dX7_count_121 : decode cX7_count 121 = .ok (.ireturn, 1) := by decide +kernel
theorem dX7_count_122 : decode cX7_count 122 = .ok (.iconst (-1), 1) := by decide +kernel
theorem dX7_count_123 : decode cX7_count 123 = .ok (.ireturn, 1) := by decide +kernel
theorem dX7_node_0 : decode cX7_node 0 = .ok (.iload_n 1, 1) := by decide +kernel
theorem dX7_node_1 : decode cX7_node 1 = .ok (.ifCond .lt 14, 3) := by decide +kernel
theorem dX7_node_4 : decode cX7_node 4 = .ok (.iload_n 1, 1) := by decide +kernel
theorem dX7_node_5 : decode cX7_node 5 = .ok (.aload_n 0, 1) := by decide +kernel
theorem dX7_node_6 : decode cX7_node 6 = .ok (.getfield 32, 3) := by decide +kernel
theorem dX7_node_9 : decode cX7_node 9 = .ok (.getfield 146, 3) := by decide +kernel
theorem dX7_node_12 : decode cX7_node 12 = .ok (.if_icmp .lt 5, 3) := by decide +kernel
theorem dX7_node_15 : decode cX7_node 15 = .ok (.iconst (-1), 1) := by decide +kernel
theorem dX7_node_16 : decode cX7_node 16 = .ok (.ireturn, 1) := by decide +kernel
theorem dX7_node_17 : decode cX7_node 17 = .ok (.aload_n 0, 1) := by decide +kernel
theorem dX7_node_18 : decode cX7_node 18 = .ok (.getfield 32, 3) := by decide +kernel
theorem dX7_node_21 : decode cX7_node 21 = .ok (.getfield 176, 3) := by decide +kernel
theorem dX7_node_24 : decode cX7_node 24 = .ok (.iload_n 1, 1) := by decide +kernel
theorem dX7_node_25 : decode cX7_node 25 = .ok (.iaload, 1) := by decide +kernel
theorem dX7_node_26 : decode cX7_node 26 = .ok (.istore_n 3, 1) := by decide +kernel
theorem dX7_node_27 : decode cX7_node 27 = .ok (.iload_n 2, 1) := by decide +kernel
theorem dX7_node_28 : decode cX7_node 28 = .ok (.tableswitch 128 0 6 #[44, 54, 64, 64, 64, 64, 92], 44) := by decide +kernel
theorem dX7_node_72 : decode cX7_node 72 = .ok (.aload_n 0, 1) := by decide +kernel
theorem dX7_node_73 : decode cX7_node 73 = .ok (.getfield 23, 3) := by decide +kernel
theorem dX7_node_76 : decode cX7_node 76 = .ok (.getfield 155, 3) := by decide +kernel
theorem dX7_node_79 : decode cX7_node 79 = .ok (.iload_n 3, 1) := by decide +kernel
theorem dX7_node_80 : decode cX7_node 80 = .ok (.iaload, 1) := by decide +kernel
theorem dX7_node_81 : decode cX7_node 81 = .ok (.ireturn, 1) := by decide +kernel
theorem dX7_node_82 : decode cX7_node 82 = .ok (.aload_n 0, 1) := by decide +kernel
theorem dX7_node_83 : decode cX7_node 83 = .ok (.getfield 23, 3) := by decide +kernel
theorem dX7_node_86 : decode cX7_node 86 = .ok (.getfield 179, 3) := by decide +kernel
theorem dX7_node_89 : decode cX7_node 89 = .ok (.iload_n 3, 1) := by decide +kernel
theorem dX7_node_90 : decode cX7_node 90 = .ok (.iaload, 1) := by decide +kernel
theorem dX7_node_91 : decode cX7_node 91 = .ok (.ireturn, 1) := by decide +kernel
theorem dX7_node_92 : decode cX7_node 92 = .ok (.aload_n 0, 1) := by decide +kernel
theorem dX7_node_93 : decode cX7_node 93 = .ok (.getfield 23, 3) := by decide +kernel
theorem dX7_node_96 : decode cX7_node 96 = .ok (.getfield 179, 3) := by decide +kernel
theorem dX7_node_99 : decode cX7_node 99 = .ok (.iload_n 3, 1) := by decide +kernel
theorem dX7_node_100 : decode cX7_node 100 = .ok (.iaload, 1) := by decide +kernel
theorem dX7_node_101 : decode cX7_node 101 = .ok (.ifCond .ne 7, 3) := by decide +kernel
theorem dX7_node_104 : decode cX7_node 104 = .ok (.iconst (-1), 1) := by decide +kernel
theorem dX7_node_105 : decode cX7_node 105 = .ok (.goto 14, 3) := by decide +kernel
theorem dX7_node_108 : decode cX7_node 108 = .ok (.aload_n 0, 1) := by decide +kernel
theorem dX7_node_109 : decode cX7_node 109 = .ok (.getfield 23, 3) := by decide +kernel
theorem dX7_node_112 : decode cX7_node 112 = .ok (.iload_n 3, 1) := by decide +kernel
theorem dX7_node_113 : decode cX7_node 113 = .ok (.iload_n 2, 1) := by decide +kernel
theorem dX7_node_114 : decode cX7_node 114 = .ok (.iconst 2, 1) := by decide +kernel
theorem dX7_node_115 : decode cX7_node 115 = .ok (.isub, 1) := by decide +kernel
theorem dX7_node_116 : decode cX7_node 116 = .ok (.invokevirtual 182, 3) := by decide +kernel
theorem dX7_node_119 : decode cX7_node 119 = .ok (.ireturn, 1) := by decide +kernel
theorem dX7_node_120 : decode cX7_node 120 = .ok (.aload_n 0, 1) := by decide +kernel
theorem dX7_node_121 : decode cX7_node 121 = .ok (.getfield 23, 3) := by decide +kernel
theorem dX7_node_124 : decode cX7_node 124 = .ok (.getfield 185, 3) := by decide +kernel
theorem dX7_node_127 : decode cX7_node 127 = .ok (.iload_n 3, 1) := by decide +kernel
theorem dX7_node_128 : decode cX7_node 128 = .ok (.iaload, 1) := by decide +kernel
theorem dX7_node_129 : decode cX7_node 129 = .ok (.iconst (-1), 1) := by decide +kernel
theorem dX7_node_130 : decode cX7_node 130 = .ok (.if_icmp .ne 8, 3) := by decide +kernel
theorem dX7_node_133 : decode cX7_node 133 = .ok (.bipush (-2), 2) := by decide +kernel
theorem dX7_node_135 : decode cX7_node 135 = .ok (.goto 20, 3) := by decide +kernel
theorem dX7_node_138 : decode cX7_node 138 = .ok (.aload_n 0, 1) := by decide +kernel
theorem dX7_node_139 : decode cX7_node 139 = .ok (.getfield 23, 3) := by decide +kernel
theorem dX7_node_142 : decode cX7_node 142 = .ok (.getfield 113, 3) := by decide +kernel
theorem dX7_node_145 : decode cX7_node 145 = .ok (.aload_n 0, 1) := by decide +kernel
theorem dX7_node_146 : decode cX7_node 146 = .ok (.getfield 23, 3) := by decide +kernel
theorem dX7_node_149 : decode cX7_node 149 = .ok (.getfield 185, 3) := by decide +kernel
theorem dX7_node_152 : decode cX7_node 152 = .ok (.iload_n 3, 1) := by decide +kernel
theorem dX7_node_153 : decode cX7_node 153 = .ok (.iaload, 1) := by decide +kernel
theorem dX7_node_154 : decode cX7_node 154 = .ok (.iaload, 1) := by decide +kernel
theorem dX7_node_155 : decode cX7_node 155 = .ok (.ireturn, 1) := by decide +kernel
theorem dX7_node_156 : decode cX7_node 156 = .ok (.iconst (-1), 1) := by decide +kernel
theorem dX7_node_157 : decode cX7_node 157 = .ok (.ireturn, 1) := by decide +kernel
theorem dX7_held_0 : decode cX7_held 0 = .ok (.iload_n 1, 1) := by decide +kernel
theorem dX7_held_1 : decode cX7_held 1 = .ok (.ifCond .lt 39, 3) := by decide +kernel
theorem dX7_held_4 : decode cX7_held 4 = .ok (.iload_n 1, 1) := by decide +kernel
theorem dX7_held_5 : decode cX7_held 5 = .ok (.aload_n 0, 1) := by decide +kernel
theorem dX7_held_6 : decode cX7_held 6 = .ok (.getfield 32, 3) := by decide +kernel
theorem dX7_held_9 : decode cX7_held 9 = .ok (.getfield 146, 3) := by decide +kernel
theorem dX7_held_12 : decode cX7_held 12 = .ok (.if_icmp .ge 28, 3) := by decide +kernel
theorem dX7_held_15 : decode cX7_held 15 = .ok (.iload_n 2, 1) := by decide +kernel
theorem dX7_held_16 : decode cX7_held 16 = .ok (.ifCond .lt 24, 3) := by decide +kernel
theorem dX7_held_19 : decode cX7_held 19 = .ok (.iload_n 2, 1) := by decide +kernel
theorem dX7_held_20 : decode cX7_held 20 = .ok (.aload_n 0, 1) := by decide +kernel
theorem dX7_held_21 : decode cX7_held 21 = .ok (.getfield 23, 3) := by decide +kernel
theorem dX7_held_24 : decode cX7_held 24 = .ok (.getfield 179, 3) := by decide +kernel
theorem dX7_held_27 : decode cX7_held 27 = .ok (.aload_n 0, 1) := by decide +kernel
theorem dX7_held_28 : decode cX7_held 28 = .ok (.getfield 32, 3) := by decide +kernel
theorem dX7_held_31 : decode cX7_held 31 = .ok (.getfield 176, 3) := by decide +kernel
theorem dX7_held_34 : decode cX7_held 34 = .ok (.iload_n 1, 1) := by decide +kernel
theorem dX7_held_35 : decode cX7_held 35 = .ok (.iaload, 1) := by decide +kernel
theorem dX7_held_36 : decode cX7_held 36 = .ok (.iaload, 1) := by decide +kernel
theorem dX7_held_37 : decode cX7_held 37 = .ok (.if_icmp .lt 5, 3) := by decide +kernel
theorem dX7_held_40 : decode cX7_held 40 = .ok (.iconst (-1), 1) := by decide +kernel
theorem dX7_held_41 : decode cX7_held 41 = .ok (.ireturn, 1) := by decide +kernel
theorem dX7_held_42 : decode cX7_held 42 = .ok (.aload_n 0, 1) := by decide +kernel
theorem dX7_held_43 : decode cX7_held 43 = .ok (.getfield 23, 3) := by decide +kernel
theorem dX7_held_46 : decode cX7_held 46 = .ok (.aload_n 0, 1) := by decide +kernel
theorem dX7_held_47 : decode cX7_held 47 = .ok (.getfield 32, 3) := by decide +kernel
theorem dX7_held_50 : decode cX7_held 50 = .ok (.getfield 176, 3) := by decide +kernel
theorem dX7_held_53 : decode cX7_held 53 = .ok (.iload_n 1, 1) := by decide +kernel
theorem dX7_held_54 : decode cX7_held 54 = .ok (.iaload, 1) := by decide +kernel
theorem dX7_held_55 : decode cX7_held 55 = .ok (.iload_n 2, 1) := by decide +kernel
theorem dX7_held_56 : decode cX7_held 56 = .ok (.invokevirtual 188, 3) := by decide +kernel
theorem dX7_held_59 : decode cX7_held 59 = .ok (.istore 4, 2) := by decide +kernel
theorem dX7_held_61 : decode cX7_held 61 = .ok (.iload_n 3, 1) := by decide +kernel
theorem dX7_held_62 : decode cX7_held 62 = .ok (.ifCond .ne 16, 3) := by decide +kernel
theorem dX7_held_65 : decode cX7_held 65 = .ok (.aload_n 0, 1) := by decide +kernel
theorem dX7_held_66 : decode cX7_held 66 = .ok (.getfield 23, 3) := by decide +kernel
theorem dX7_held_69 : decode cX7_held 69 = .ok (.getfield 113, 3) := by decide +kernel
theorem dX7_held_72 : decode cX7_held 72 = .ok (.iload 4, 2) := by decide +kernel
theorem dX7_held_74 : decode cX7_held 74 = .ok (.iaload, 1) := by decide +kernel
theorem dX7_held_75 : decode cX7_held 75 = .ok (.goto 15, 3) := by decide +kernel
theorem dX7_held_78 : decode cX7_held 78 = .ok (.aload_n 0, 1) := by decide +kernel
theorem dX7_held_79 : decode cX7_held 79 = .ok (.getfield 23, 3) := by decide +kernel
theorem dX7_held_82 : decode cX7_held 82 = .ok (.iload 4, 2) := by decide +kernel
theorem dX7_held_84 : decode cX7_held 84 = .ok (.iload_n 3, 1) := by decide +kernel
theorem dX7_held_85 : decode cX7_held 85 = .ok (.iconst 1, 1) := by decide +kernel
theorem dX7_held_86 : decode cX7_held 86 = .ok (.isub, 1) := by decide +kernel
theorem dX7_held_87 : decode cX7_held 87 = .ok (.invokevirtual 182, 3) := by decide +kernel
theorem dX7_held_90 : decode cX7_held 90 = .ok (.ireturn, 1) := by decide +kernel
theorem dX7_audit_0 : decode cX7_audit 0 = .ok (.aload_n 0, 1) := by decide +kernel
theorem dX7_audit_1 : decode cX7_audit 1 = .ok (.getfield 62, 3) := by decide +kernel
theorem dX7_audit_4 : decode cX7_audit 4 = .ok (.invokevirtual 191, 3) := by decide +kernel
theorem dX7_audit_7 : decode cX7_audit 7 = .ok (.ireturn, 1) := by decide +kernel
theorem dX7_isId_0 : decode cX7_isId 0 = .ok (.iload_n 0, 1) := by decide +kernel
theorem dX7_isId_1 : decode cX7_isId 1 = .ok (.ifCond .lt 14, 3) := by decide +kernel
theorem dX7_isId_4 : decode cX7_isId 4 = .ok (.iload_n 0, 1) := by decide +kernel
theorem dX7_isId_5 : decode cX7_isId 5 = .ok (.sipush 999, 3) := by decide +kernel
theorem dX7_isId_8 : decode cX7_isId 8 = .ok (.if_icmp .gt 7, 3) := by decide +kernel
theorem dX7_isId_11 : decode cX7_isId 11 = .ok (.iconst 1, 1) := by decide +kernel
theorem dX7_isId_12 : decode cX7_isId 12 = .ok (.goto 4, 3) := by decide +kernel
theorem dX7_isId_15 : decode cX7_isId 15 = .ok (.iconst 0, 1) := by decide +kernel
theorem dX7_isId_16 : decode cX7_isId 16 = .ok (.ireturn, 1) := by decide +kernel
theorem dX7_isPlace_0 : decode cX7_isPlace 0 = .ok (.iload_n 0, 1) := by decide +kernel
theorem dX7_isPlace_1 : decode cX7_isPlace 1 = .ok (.ifCond .lt 14, 3) := by decide +kernel
theorem dX7_isPlace_4 : decode cX7_isPlace 4 = .ok (.iload_n 0, 1) := by decide +kernel
theorem dX7_isPlace_5 : decode cX7_isPlace 5 = .ok (.sipush 32767, 3) := by decide +kernel
theorem dX7_isPlace_8 : decode cX7_isPlace 8 = .ok (.if_icmp .gt 7, 3) := by decide +kernel
theorem dX7_isPlace_11 : decode cX7_isPlace 11 = .ok (.iconst 1, 1) := by decide +kernel
theorem dX7_isPlace_12 : decode cX7_isPlace 12 = .ok (.goto 4, 3) := by decide +kernel
theorem dX7_isPlace_15 : decode cX7_isPlace 15 = .ok (.iconst 0, 1) := by decide +kernel
theorem dX7_isPlace_16 : decode cX7_isPlace 16 = .ok (.ireturn, 1) := by decide +kernel
theorem dX7_isRectangle_0 : decode cX7_isRectangle 0 = .ok (.iload_n 0, 1) := by decide +kernel
theorem dX7_isRectangle_1 : decode cX7_isRectangle 1 = .ok (.invokestatic 120, 3) := by decide +kernel
theorem dX7_isRectangle_4 : decode cX7_isRectangle 4 = .ok (.ifCond .eq 38, 3) := by decide +kernel
theorem dX7_isRectangle_7 : decode cX7_isRectangle 7 = .ok (.iload_n 1, 1) := by decide +kernel
theorem dX7_isRectangle_8 : decode cX7_isRectangle 8 = .ok (.invokestatic 120, 3) := by decide +kernel
theorem dX7_isRectangle_11 : decode cX7_isRectangle 11 = .ok (.ifCond .eq 31, 3) := by decide +kernel
theorem dX7_isRectangle_14 : decode cX7_isRectangle 14 = .ok (.iload_n 2, 1) := by decide +kernel
theorem dX7_isRectangle_15 : decode cX7_isRectangle 15 = .ok (.invokestatic 120, 3) := by decide +kernel
theorem dX7_isRectangle_18 : decode cX7_isRectangle 18 = .ok (.ifCond .eq 24, 3) := by decide +kernel
theorem dX7_isRectangle_21 : decode cX7_isRectangle 21 = .ok (.iload_n 3, 1) := by decide +kernel
theorem dX7_isRectangle_22 : decode cX7_isRectangle 22 = .ok (.invokestatic 120, 3) := by decide +kernel
theorem dX7_isRectangle_25 : decode cX7_isRectangle 25 = .ok (.ifCond .eq 17, 3) := by decide +kernel
theorem dX7_isRectangle_28 : decode cX7_isRectangle 28 = .ok (.iload_n 0, 1) := by decide +kernel
theorem dX7_isRectangle_29 : decode cX7_isRectangle 29 = .ok (.iload_n 2, 1) := by decide +kernel
theorem dX7_isRectangle_30 : decode cX7_isRectangle 30 = .ok (.if_icmp .gt 12, 3) := by decide +kernel
theorem dX7_isRectangle_33 : decode cX7_isRectangle 33 = .ok (.iload_n 1, 1) := by decide +kernel
theorem dX7_isRectangle_34 : decode cX7_isRectangle 34 = .ok (.iload_n 3, 1) := by decide +kernel
theorem dX7_isRectangle_35 : decode cX7_isRectangle 35 = .ok (.if_icmp .gt 7, 3) := by decide +kernel
theorem dX7_isRectangle_38 : decode cX7_isRectangle 38 = .ok (.iconst 1, 1) := by decide +kernel
theorem dX7_isRectangle_39 : decode cX7_isRectangle 39 = .ok (.goto 4, 3) := by decide +kernel
theorem dX7_isRectangle_42 : decode cX7_isRectangle 42 = .ok (.iconst 0, 1) := by decide +kernel
theorem dX7_isRectangle_43 : decode cX7_isRectangle 43 = .ok (.ireturn, 1) := by decide +kernel
theorem dX8_init_0 : decode cX8_init 0 = .ok (.aload_n 0, 1) := by decide +kernel
theorem dX8_init_1 : decode cX8_init 1 = .ok (.invokespecial 7, 3) := by decide +kernel
theorem dX8_init_4 : decode cX8_init 4 = .ok (.aload_n 0, 1) := by decide +kernel
theorem dX8_init_5 : decode cX8_init 5 = .ok (.sipush 401, 3) := by decide +kernel
theorem dX8_init_8 : decode cX8_init 8 = .ok (.newarray .int, 2) := by decide +kernel
theorem dX8_init_10 : decode cX8_init 10 = .ok (.putfield 13, 3) := by decide +kernel
theorem dX8_init_13 : decode cX8_init 13 = .ok (.aload_n 0, 1) := by decide +kernel
theorem dX8_init_14 : decode cX8_init 14 = .ok (.sipush 1604, 3) := by decide +kernel
theorem dX8_init_17 : decode cX8_init 17 = .ok (.newarray .int, 2) := by decide +kernel
theorem dX8_init_19 : decode cX8_init 19 = .ok (.putfield 17, 3) := by decide +kernel
theorem dX8_init_22 : decode cX8_init 22 = .ok (.aload_n 0, 1) := by decide +kernel
theorem dX8_init_23 : decode cX8_init 23 = .ok (.sipush 500, 3) := by decide +kernel
theorem dX8_init_26 : decode cX8_init 26 = .ok (.newarray .int, 2) := by decide +kernel
theorem dX8_init_28 : decode cX8_init 28 = .ok (.putfield 20, 3) := by decide +kernel
theorem dX8_init_31 : decode cX8_init 31 = .ok (.aload_n 0, 1) := by decide +kernel
theorem dX8_init_32 : decode cX8_init 32 = .ok (.sipush 500, 3) := by decide +kernel
theorem dX8_init_35 : decode cX8_init 35 = .ok (.newarray .int, 2) := by decide +kernel
theorem dX8_init_37 : decode cX8_init 37 = .ok (.putfield 23, 3) := by decide +kernel
theorem dX8_init_40 : decode cX8_init 40 = .ok (.aload_n 0, 1) := by decide +kernel
theorem dX8_init_41 : decode cX8_init 41 = .ok (.sipush 5500, 3) := by decide +kernel
theorem dX8_init_44 : decode cX8_init 44 = .ok (.newarray .int, 2) := by decide +kernel
theorem dX8_init_46 : decode cX8_init 46 = .ok (.putfield 26, 3) := by decide +kernel
theorem dX8_init_49 : decode cX8_init 49 = .ok (.aload_n 0, 1) := by decide +kernel
theorem dX8_init_50 : decode cX8_init 50 = .ok (.sipush 2000, 3) := by decide +kernel
theorem dX8_init_53 : decode cX8_init 53 = .ok (.newarray .int, 2) := by decide +kernel
theorem dX8_init_55 : decode cX8_init 55 = .ok (.putfield 29, 3) := by decide +kernel
theorem dX8_init_58 : decode cX8_init 58 = .ok (.aload_n 0, 1) := by decide +kernel
theorem dX8_init_59 : decode cX8_init 59 = .ok (.sipush 500, 3) := by decide +kernel
theorem dX8_init_62 : decode cX8_init 62 = .ok (.newarray .int, 2) := by decide +kernel
theorem dX8_init_64 : decode cX8_init 64 = .ok (.putfield 32, 3) := by decide +kernel
theorem dX8_init_67 : decode cX8_init 67 = .ok (.aload_n 0, 1) := by decide +kernel
theorem dX8_init_68 : decode cX8_init 68 = .ok (.bipush 64, 2) := by decide +kernel
theorem dX8_init_70 : decode cX8_init 70 = .ok (.newarray .int, 2) := by decide +kernel
theorem dX8_init_72 : decode cX8_init 72 = .ok (.putfield 35, 3) := by decide +kernel
theorem dX8_init_75 : decode cX8_init 75 = .ok (.aload_n 0, 1) := by decide +kernel
theorem dX8_init_76 : decode cX8_init 76 = .ok (.bipush 64, 2) := by decide +kernel
theorem dX8_init_78 : decode cX8_init 78 = .ok (.newarray .int, 2) := by decide +kernel
theorem dX8_init_80 : decode cX8_init 80 = .ok (.putfield 38, 3) := by decide +kernel
theorem dX8_init_83 : decode cX8_init 83 = .ok (.aload_n 0, 1) := by decide +kernel
theorem dX8_init_84 : decode cX8_init 84 = .ok (.sipush 500, 3) := by decide +kernel
theorem dX8_init_87 : decode cX8_init 87 = .ok (.newarray .int, 2) := by decide +kernel
theorem dX8_init_89 : decode cX8_init 89 = .ok (.putfield 41, 3) := by decide +kernel
theorem dX8_init_92 : decode cX8_init 92 = .ok (.aload_n 0, 1) := by decide +kernel
theorem dX8_init_93 : decode cX8_init 93 = .ok (.iconst 4, 1) := by decide +kernel
theorem dX8_init_94 : decode cX8_init 94 = .ok (.newarray .int, 2) := by decide +kernel
theorem dX8_init_96 : decode cX8_init 96 = .ok (.putfield 44, 3) := by decide +kernel
theorem dX8_init_99 : decode cX8_init 99 = .ok (.aload_n 0, 1) := by decide +kernel
theorem dX8_init_100 : decode cX8_init 100 = .ok (.bipush 40, 2) := by decide +kernel
theorem dX8_init_102 : decode cX8_init 102 = .ok (.newarray .int, 2) := by decide +kernel
theorem dX8_init_104 : decode cX8_init 104 = .ok (.putfield 47, 3) := by decide +kernel
theorem dX8_init_107 : decode cX8_init 107 = .ok (.aload_n 0, 1) := by decide +kernel
theorem dX8_init_108 : decode cX8_init 108 = .ok (.bipush 40, 2) := by decide +kernel
theorem dX8_init_110 : decode cX8_init 110 = .ok (.newarray .int, 2) := by decide +kernel
theorem dX8_init_112 : decode cX8_init 112 = .ok (.putfield 50, 3) := by decide +kernel
theorem dX8_init_115 : decode cX8_init 115 = .ok (.aload_n 0, 1) := by decide +kernel
theorem dX8_init_116 : decode cX8_init 116 = .ok (.bipush 11, 2) := by decide +kernel
theorem dX8_init_118 : decode cX8_init 118 = .ok (.newarray .int, 2) := by decide +kernel
theorem dX8_init_120 : decode cX8_init 120 = .ok (.putfield 53, 3) := by decide +kernel
theorem dX8_init_123 : decode cX8_init 123 = .ok (.aload_n 0, 1) := by decide +kernel
theorem dX8_init_124 : decode cX8_init 124 = .ok (.bipush 11, 2) := by decide +kernel
theorem dX8_init_126 : decode cX8_init 126 = .ok (.newarray .int, 2) := by decide +kernel
theorem dX8_init_128 : decode cX8_init 128 = .ok (.putfield 56, 3) := by decide +kernel
theorem dX8_init_131 : decode cX8_init 131 = .ok (.aload_n 0, 1) := by decide +kernel
theorem dX8_init_132 : decode cX8_init 132 = .ok (.bipush 11, 2) := by decide +kernel
theorem dX8_init_134 : decode cX8_init 134 = .ok (.newarray .int, 2) := by decide +kernel
theorem dX8_init_136 : decode cX8_init 136 = .ok (.putfield 59, 3) := by decide +kernel
theorem dX8_init_139 : decode cX8_init 139 = .ok (.aload_n 0, 1) := by decide +kernel
theorem dX8_init_140 : decode cX8_init 140 = .ok (.bipush 8, 2) := by decide +kernel
theorem dX8_init_142 : decode cX8_init 142 = .ok (.newarray .int, 2) := by decide +kernel
theorem dX8_init_144 : decode cX8_init 144 = .ok (.putfield 62, 3) := by decide +kernel
theorem dX8_init_147 : decode cX8_init 147 = .ok (.aload_n 0, 1) := by decide +kernel
theorem dX8_init_148 : decode cX8_init 148 = .ok (.iconst 2, 1) := by decide +kernel
theorem dX8_init_149 : decode cX8_init 149 = .ok (.newarray .int, 2) := by decide +kernel
theorem dX8_init_151 : decode cX8_init 151 = .ok (.putfield 65, 3) := by decide +kernel
theorem dX8_init_154 : decode cX8_init 154 = .ok (.aload_n 0, 1) := by decide +kernel
theorem dX8_init_155 : decode cX8_init 155 = .ok (.sipush 1000, 3) := by decide +kernel
theorem dX8_init_158 : decode cX8_init 158 = .ok (.newarray .int, 2) := by decide +kernel
theorem dX8_init_160 : decode cX8_init 160 = .ok (.putfield 68, 3) := by decide +kernel
theorem dX8_init_163 : decode cX8_init 163 = .ok (.aload_n 0, 1) := by decide +kernel
theorem dX8_init_164 : decode cX8_init 164 = .ok (.sipush 1000, 3) := by decide +kernel
theorem dX8_init_167 : decode cX8_init 167 = .ok (.newarray .int, 2) := by decide +kernel
theorem dX8_init_169 : decode cX8_init 169 = .ok (.putfield 71, 3) := by decide +kernel
theorem dX8_init_172 : decode cX8_init 172 = .ok (.aload_n 0, 1) := by decide +kernel
theorem dX8_init_173 : decode cX8_init 173 = .ok (.sipush 500, 3) := by decide +kernel
theorem dX8_init_176 : decode cX8_init 176 = .ok (.newarray .int, 2) := by decide +kernel
theorem dX8_init_178 : decode cX8_init 178 = .ok (.putfield 74, 3) := by decide +kernel
theorem dX8_init_181 : decode cX8_init 181 = .ok (.aload_n 0, 1) := by decide +kernel
theorem dX8_init_182 : decode cX8_init 182 = .ok (.sipush 400, 3) := by decide +kernel
theorem dX8_init_185 : decode cX8_init 185 = .ok (.newarray .int, 2) := by decide +kernel
theorem dX8_init_187 : decode cX8_init 187 = .ok (.putfield 77, 3) := by decide +kernel
theorem dX8_init_190 : decode cX8_init 190 = .ok (.aload_n 0, 1) := by decide +kernel
theorem dX8_init_191 : decode cX8_init 191 = .ok (.sipush 200, 3) := by decide +kernel
theorem dX8_init_194 : decode cX8_init 194 = .ok (.newarray .int, 2) := by decide +kernel
theorem dX8_init_196 : decode cX8_init 196 = .ok (.putfield 80, 3) := by decide +kernel
theorem dX8_init_199 : decode cX8_init 199 = .ok (.iload_n 1, 1) := by decide +kernel
theorem dX8_init_200 : decode cX8_init 200 = .ok (.iconst 4, 1) := by decide +kernel
theorem dX8_init_201 : decode cX8_init 201 = .ok (.if_icmp .ge 7, 3) := by decide +kernel
theorem dX8_init_204 : decode cX8_init 204 = .ok (.iconst 4, 1) := by decide +kernel
theorem dX8_init_205 : decode cX8_init 205 = .ok (.goto 15, 3) := by decide +kernel
theorem dX8_init_208 : decode cX8_init 208 = .ok (.iload_n 1, 1) := by decide +kernel
theorem dX8_init_209 : decode cX8_init 209 = .ok (.bipush 10, 2) := by decide +kernel
theorem dX8_init_211 : decode cX8_init 211 = .ok (.if_icmp .le 8, 3) := by decide +kernel
theorem dX8_init_214 : decode cX8_init 214 = .ok (.bipush 10, 2) := by decide +kernel
theorem dX8_init_216 : decode cX8_init 216 = .ok (.goto 4, 3) := by decide +kernel
theorem dX8_init_219 : decode cX8_init 219 = .ok (.iload_n 1, 1) := by decide +kernel
theorem dX8_init_220 : decode cX8_init 220 = .ok (.istore_n 3, 1) := by decide +kernel
theorem dX8_init_221 : decode cX8_init 221 = .ok (.aload_n 0, 1) := by decide +kernel
theorem dX8_init_222 : decode cX8_init 222 = .ok (.iload_n 3, 1) := by decide +kernel
theorem dX8_init_223 : decode cX8_init 223 = .ok (.putfield 83, 3) := by decide +kernel
theorem dX8_init_226 : decode cX8_init 226 = .ok (.aload_n 0, 1) := by decide +kernel
theorem dX8_init_227 : decode cX8_init 227 = .ok (.iload_n 2, 1) := by decide +kernel
theorem dX8_init_228 : decode cX8_init 228 = .ok (.iconst 2, 1) := by decide +kernel
theorem dX8_init_229 : decode cX8_init 229 = .ok (.if_icmp .ge 7, 3) := by decide +kernel
theorem dX8_init_232 : decode cX8_init 232 = .ok (.iconst 2, 1) := by decide +kernel
theorem dX8_init_233 : decode cX8_init 233 = .ok (.goto 17, 3) := by decide +kernel
theorem dX8_init_236 : decode cX8_init 236 = .ok (.iload_n 2, 1) := by decide +kernel
theorem dX8_init_237 : decode cX8_init 237 = .ok (.iload_n 3, 1) := by decide +kernel
theorem dX8_init_238 : decode cX8_init 238 = .ok (.iconst 2, 1) := by decide +kernel
theorem dX8_init_239 : decode cX8_init 239 = .ok (.idiv, 1) := by decide +kernel
theorem dX8_init_240 : decode cX8_init 240 = .ok (.if_icmp .le 9, 3) := by decide +kernel
theorem dX8_init_243 : decode cX8_init 243 = .ok (.iload_n 3, 1) := by decide +kernel
theorem dX8_init_244 : decode cX8_init 244 = .ok (.iconst 2, 1) := by decide +kernel
theorem dX8_init_245 : decode cX8_init 245 = .ok (.idiv, 1) := by decide +kernel
theorem dX8_init_246 : decode cX8_init 246 = .ok (.goto 4, 3) := by decide +kernel
theorem dX8_init_249 : decode cX8_init 249 = .ok (.iload_n 2, 1) := by decide +kernel
theorem dX8_init_250 : decode cX8_init 250 = .ok (.putfield 86, 3) := by decide +kernel
theorem dX8_init_253 : decode cX8_init 253 = .ok (.iconst 0, 1) := by decide +kernel
theorem dX8_init_254 : decode cX8_init 254 = .ok (.istore 4, 2) := by decide +kernel
theorem dX8_init_256 : decode cX8_init 256 = .ok (.iload 4, 2) := by decide +kernel
theorem dX8_init_258 : decode cX8_init 258 = .ok (.sipush 400, 3) := by decide +kernel
theorem dX8_init_261 : decode cX8_init 261 = .ok (.if_icmp .gt 18, 3) := by decide +kernel
theorem dX8_init_264 : decode cX8_init 264 = .ok (.aload_n 0, 1) := by decide +kernel
theorem dX8_init_265 : decode cX8_init 265 = .ok (.getfield 13, 3) := by decide +kernel
theorem dX8_init_268 : decode cX8_init 268 = .ok (.iload 4, 2) := by decide +kernel
theorem dX8_init_270 : decode cX8_init 270 = .ok (.bipush (-2), 2) := by decide +kernel
theorem dX8_init_272 : decode cX8_init 272 = .ok (.iastore, 1) := by decide +kernel
theorem dX8_init_273 : decode cX8_init 273 = .ok (.iinc 4 1, 3) := by decide +kernel
theorem dX8_init_276 : decode cX8_init 276 = .ok (.goto (-20), 3) := by decide +kernel
theorem dX8_init_279 : decode cX8_init 279 = .ok (.iconst 0, 1) := by decide +kernel
theorem dX8_init_280 : decode cX8_init 280 = .ok (.istore 4, 2) := by decide +kernel
theorem dX8_init_282 : decode cX8_init 282 = .ok (.iload 4, 2) := by decide +kernel
theorem dX8_init_284 : decode cX8_init 284 = .ok (.sipush 500, 3) := by decide +kernel
theorem dX8_init_287 : decode cX8_init 287 = .ok (.if_icmp .ge 18, 3) := by decide +kernel
theorem dX8_init_290 : decode cX8_init 290 = .ok (.aload_n 0, 1) := by decide +kernel
theorem dX8_init_291 : decode cX8_init 291 = .ok (.getfield 20, 3) := by decide +kernel
theorem dX8_init_294 : decode cX8_init 294 = .ok (.iload 4, 2) := by decide +kernel
theorem dX8_init_296 : decode cX8_init 296 = .ok (.bipush (-2), 2) := by decide +kernel
theorem dX8_init_298 : decode cX8_init 298 = .ok (.iastore, 1) := by decide +kernel
theorem dX8_init_299 : decode cX8_init 299 = .ok (.iinc 4 1, 3) := by decide +kernel
theorem dX8_init_302 : decode cX8_init 302 = .ok (.goto (-20), 3) := by decide +kernel
theorem dX8_init_305 : decode cX8_init 305 = .ok (.aload_n 0, 1) := by decide +kernel
theorem dX8_init_306 : decode cX8_init 306 = .ok (.aload_n 0, 1) := by decide +kernel
theorem dX8_init_307 : decode cX8_init 307 = .ok (.iconst 0, 1) := by decide +kernel
theorem dX8_init_308 : decode cX8_init 308 = .ok (.invokevirtual 89, 3) := by decide +kernel
theorem dX8_init_311 : decode cX8_init 311 = .ok (.putfield 93, 3) := by decide +kernel
theorem dX8_init_314 : decode cX8_init 314 = .ok (.return_, 1) := by decide +kernel
theorem dX8_side_0 : decode cX8_side 0 = .ok (.iload_n 1, 1) := by decide +kernel
theorem dX8_side_1 : decode cX8_side 1 = .ok (.ifCond .ge 16, 3) := by decide +kernel
theorem dX8_side_4 : decode cX8_side 4 = .ok (.aload_n 0, 1) := by decide +kernel
theorem dX8_side_5 : decode cX8_side 5 = .ok (.getfield 17, 3) := by decide +kernel
theorem dX8_side_8 : decode cX8_side 8 = .ok (.iconst 4, 1) := by decide +kernel
theorem dX8_side_9 : decode cX8_side 9 = .ok (.iload_n 2, 1) := by decide +kernel
theorem dX8_side_10 : decode cX8_side 10 = .ok (.imul, 1) := by decide +kernel
theorem dX8_side_11 : decode cX8_side 11 = .ok (.iload_n 3, 1) := by decide +kernel
theorem dX8_side_12 : decode cX8_side 12 = .ok (.iadd, 1) := by decide +kernel
theorem dX8_side_13 : decode cX8_side 13 = .ok (.iaload, 1) := by decide +kernel
theorem dX8_side_14 : decode cX8_side 14 = .ok (.goto 13, 3) := by decide +kernel
theorem dX8_side_17 : decode cX8_side 17 = .ok (.aload_n 0, 1) := by decide +kernel
theorem dX8_side_18 : decode cX8_side 18 = .ok (.getfield 29, 3) := by decide +kernel
theorem dX8_side_21 : decode cX8_side 21 = .ok (.iconst 4, 1) := by decide +kernel
theorem dX8_side_22 : decode cX8_side 22 = .ok (.iload_n 2, 1) := by decide +kernel
theorem dX8_side_23 : decode cX8_side 23 = .ok (.imul, 1) := by decide +kernel
theorem dX8_side_24 : decode cX8_side 24 = .ok (.iload_n 3, 1) := by decide +kernel
theorem dX8_side_25 : decode cX8_side 25 = .ok (.iadd, 1) := by decide +kernel
theorem dX8_side_26 : decode cX8_side 26 = .ok (.iaload, 1) := by decide +kernel
theorem dX8_side_27 : decode cX8_side 27 = .ok (.ireturn, 1) := by decide +kernel
theorem dX8_area_0 : decode cX8_area 0 = .ok (.iload_n 2, 1) := by decide +kernel
theorem dX8_area_1 : decode cX8_area 1 = .ok (.iload_n 0, 1) := by decide +kernel
theorem dX8_area_2 : decode cX8_area 2 = .ok (.isub, 1) := by decide +kernel
theorem dX8_area_3 : decode cX8_area 3 = .ok (.i2l, 1) := by decide +kernel
theorem dX8_area_4 : decode cX8_area 4 = .ok (.lconst 1, 1) := by decide +kernel
theorem dX8_area_5 : decode cX8_area 5 = .ok (.ladd, 1) := by decide +kernel
theorem dX8_area_6 : decode cX8_area 6 = .ok (.iload_n 3, 1) := by decide +kernel
theorem dX8_area_7 : decode cX8_area 7 = .ok (.iload_n 1, 1) := by decide +kernel
theorem dX8_area_8 : decode cX8_area 8 = .ok (.isub, 1) := by decide +kernel
theorem dX8_area_9 : decode cX8_area 9 = .ok (.i2l, 1) := by decide +kernel
theorem dX8_area_10 : decode cX8_area 10 = .ok (.lconst 1, 1) := by decide +kernel
theorem dX8_area_11 : decode cX8_area 11 = .ok (.ladd, 1) := by decide +kernel
theorem dX8_area_12 : decode cX8_area 12 = .ok (.lmul, 1) := by decide +kernel
theorem dX8_area_13 : decode cX8_area 13 = .ok (.lreturn, 1) := by decide +kernel
theorem dX8_areaOf_0 : decode cX8_areaOf 0 = .ok (.aload_n 0, 1) := by decide +kernel
theorem dX8_areaOf_1 : decode cX8_areaOf 1 = .ok (.iload_n 1, 1) := by decide +kernel
theorem dX8_areaOf_2 : decode cX8_areaOf 2 = .ok (.iload_n 2, 1) := by decide +kernel
theorem dX8_areaOf_3 : decode cX8_areaOf 3 = .ok (.iconst 0, 1) := by decide +kernel
theorem dX8_areaOf_4 : decode cX8_areaOf 4 = .ok (.invokevirtual 96, 3) := by decide +kernel
theorem dX8_areaOf_7 : decode cX8_areaOf 7 = .ok (.aload_n 0, 1) := by decide +kernel
theorem dX8_areaOf_8 : decode cX8_areaOf 8 = .ok (.iload_n 1, 1) := by decide +kernel
theorem dX8_areaOf_9 : decode cX8_areaOf 9 = .ok (.iload_n 2, 1) := by decide +kernel
theorem dX8_areaOf_10 : decode cX8_areaOf 10 = .ok (.iconst 1, 1) := by decide +kernel
theorem dX8_areaOf_11 : decode cX8_areaOf 11 = .ok (.invokevirtual 96, 3) := by decide +kernel
theorem dX8_areaOf_14 : decode cX8_areaOf 14 = .ok (.aload_n 0, 1) := by decide +kernel
theorem dX8_areaOf_15 : decode cX8_areaOf 15 = .ok (.iload_n 1, 1) := by decide +kernel
theorem dX8_areaOf_16 : decode cX8_areaOf 16 = .ok (.iload_n 2, 1) := by decide +kernel
theorem dX8_areaOf_17 : decode cX8_areaOf 17 = .ok (.iconst 2, 1) := by decide +kernel
theorem dX8_areaOf_18 : decode cX8_areaOf 18 = .ok (.invokevirtual 96, 3) := by decide +kernel
theorem dX8_areaOf_21 : decode cX8_areaOf 21 = .ok (.aload_n 0, 1) := by decide +kernel
theorem dX8_areaOf_22 : decode cX8_areaOf 22 = .ok (.iload_n 1, 1) := by decide +kernel
theorem dX8_areaOf_23 : decode cX8_areaOf 23 = .ok (.iload_n 2, 1) := by decide +kernel
theorem dX8_areaOf_24 : decode cX8_areaOf 24 = .ok (.iconst 3, 1) := by decide +kernel
theorem dX8_areaOf_25 : decode cX8_areaOf 25 = .ok (.invokevirtual 96, 3) := by decide +kernel
theorem dX8_areaOf_28 : decode cX8_areaOf 28 = .ok (.invokestatic 100, 3) := by decide +kernel
theorem dX8_areaOf_31 : decode cX8_areaOf 31 = .ok (.lreturn, 1) := by decide +kernel
theorem dX8_lesser_0 : decode cX8_lesser 0 = .ok (.iload_n 0, 1) := by decide +kernel
theorem dX8_lesser_1 : decode cX8_lesser 1 = .ok (.iload_n 1, 1) := by decide +kernel
theorem dX8_lesser_2 : decode cX8_lesser 2 = .ok (.if_icmp .ge 7, 3) := by decide +kernel
theorem dX8_lesser_5 : decode cX8_lesser 5 = .ok (.iload_n 0, 1) := by decide +kernel
theorem dX8_lesser_6 : decode cX8_lesser 6 = .ok (.goto 4, 3) := by decide +kernel
theorem dX8_lesser_9 : decode cX8_lesser 9 = .ok (.iload_n 1, 1) := by decide +kernel
theorem dX8_lesser_10 : decode cX8_lesser 10 = .ok (.ireturn, 1) := by decide +kernel
theorem dX8_greater_0 : decode cX8_greater 0 = .ok (.iload_n 0, 1) := by decide +kernel
theorem dX8_greater_1 : decode cX8_greater 1 = .ok (.iload_n 1, 1) := by decide +kernel
theorem dX8_greater_2 : decode cX8_greater 2 = .ok (.if_icmp .le 7, 3) := by decide +kernel
theorem dX8_greater_5 : decode cX8_greater 5 = .ok (.iload_n 0, 1) := by decide +kernel
theorem dX8_greater_6 : decode cX8_greater 6 = .ok (.goto 4, 3) := by decide +kernel
theorem dX8_greater_9 : decode cX8_greater 9 = .ok (.iload_n 1, 1) := by decide +kernel
theorem dX8_greater_10 : decode cX8_greater 10 = .ok (.ireturn, 1) := by decide +kernel
theorem dX8_areaBoth_0 : decode cX8_areaBoth 0 = .ok (.aload_n 0, 1) := by decide +kernel
theorem dX8_areaBoth_1 : decode cX8_areaBoth 1 = .ok (.iload_n 1, 1) := by decide +kernel
theorem dX8_areaBoth_2 : decode cX8_areaBoth 2 = .ok (.iload_n 2, 1) := by decide +kernel
theorem dX8_areaBoth_3 : decode cX8_areaBoth 3 = .ok (.iconst 0, 1) := by decide +kernel
theorem dX8_areaBoth_4 : decode cX8_areaBoth 4 = .ok (.invokevirtual 96, 3) := by decide +kernel
theorem dX8_areaBoth_7 : decode cX8_areaBoth 7 = .ok (.aload_n 0, 1) := by decide +kernel
theorem dX8_areaBoth_8 : decode cX8_areaBoth 8 = .ok (.iload_n 3, 1) := by decide +kernel
theorem dX8_areaBoth_9 : decode cX8_areaBoth 9 = .ok (.iload 4, 2) := by decide +kernel
theorem dX8_areaBoth_11 : decode cX8_areaBoth 11 = .ok (.iconst 0, 1) := by decide +kernel
theorem dX8_areaBoth_12 : decode cX8_areaBoth 12 = .ok (.invokevirtual 96, 3) := by decide +kernel
theorem dX8_areaBoth_15 : decode cX8_areaBoth 15 = .ok (.invokestatic 104, 3) := by decide +kernel
theorem dX8_areaBoth_18 : decode cX8_areaBoth 18 = .ok (.aload_n 0, 1) := by decide +kernel
theorem dX8_areaBoth_19 : decode cX8_areaBoth 19 = .ok (.iload_n 1, 1) := by decide +kernel
theorem dX8_areaBoth_20 : decode cX8_areaBoth 20 = .ok (.iload_n 2, 1) := by decide +kernel
theorem dX8_areaBoth_21 : decode cX8_areaBoth 21 = .ok (.iconst 1, 1) := by decide +kernel
theorem dX8_areaBoth_22 : decode cX8_areaBoth 22 = .ok (.invokevirtual 96, 3) := by decide +kernel
theorem dX8_areaBoth_25 : decode cX8_areaBoth 25 = .ok (.aload_n 0, 1) := by decide +kernel
theorem dX8_areaBoth_26 : decode cX8_areaBoth 26 = .ok (.iload_n 3, 1) := by decide +kernel
theorem dX8_areaBoth_27 : decode cX8_areaBoth 27 = .ok (.iload 4, 2) := by decide +kernel
theorem dX8_areaBoth_29 : decode cX8_areaBoth 29 = .ok (.iconst 1, 1) := by decide +kernel
theorem dX8_areaBoth_30 : decode cX8_areaBoth 30 = .ok (.invokevirtual 96, 3) := by decide +kernel
theorem dX8_areaBoth_33 : decode cX8_areaBoth 33 = .ok (.invokestatic 104, 3) := by decide +kernel
theorem dX8_areaBoth_36 : decode cX8_areaBoth 36 = .ok (.aload_n 0, 1) := by decide +kernel
theorem dX8_areaBoth_37 : decode cX8_areaBoth 37 = .ok (.iload_n 1, 1) := by decide +kernel
theorem dX8_areaBoth_38 : decode cX8_areaBoth 38 = .ok (.iload_n 2, 1) := by decide +kernel
theorem dX8_areaBoth_39 : decode cX8_areaBoth 39 = .ok (.iconst 2, 1) := by decide +kernel
theorem dX8_areaBoth_40 : decode cX8_areaBoth 40 = .ok (.invokevirtual 96, 3) := by decide +kernel
theorem dX8_areaBoth_43 : decode cX8_areaBoth 43 = .ok (.aload_n 0, 1) := by decide +kernel
theorem dX8_areaBoth_44 : decode cX8_areaBoth 44 = .ok (.iload_n 3, 1) := by decide +kernel
theorem dX8_areaBoth_45 : decode cX8_areaBoth 45 = .ok (.iload 4, 2) := by decide +kernel
theorem dX8_areaBoth_47 : decode cX8_areaBoth 47 = .ok (.iconst 2, 1) := by decide +kernel
theorem dX8_areaBoth_48 : decode cX8_areaBoth 48 = .ok (.invokevirtual 96, 3) := by decide +kernel
theorem dX8_areaBoth_51 : decode cX8_areaBoth 51 = .ok (.invokestatic 108, 3) := by decide +kernel
theorem dX8_areaBoth_54 : decode cX8_areaBoth 54 = .ok (.aload_n 0, 1) := by decide +kernel
theorem dX8_areaBoth_55 : decode cX8_areaBoth 55 = .ok (.iload_n 1, 1) := by decide +kernel
theorem dX8_areaBoth_56 : decode cX8_areaBoth 56 = .ok (.iload_n 2, 1) := by decide +kernel
theorem dX8_areaBoth_57 : decode cX8_areaBoth 57 = .ok (.iconst 3, 1) := by decide +kernel
theorem dX8_areaBoth_58 : decode cX8_areaBoth 58 = .ok (.invokevirtual 96, 3) := by decide +kernel
theorem dX8_areaBoth_61 : decode cX8_areaBoth 61 = .ok (.aload_n 0, 1) := by decide +kernel
theorem dX8_areaBoth_62 : decode cX8_areaBoth 62 = .ok (.iload_n 3, 1) := by decide +kernel
theorem dX8_areaBoth_63 : decode cX8_areaBoth 63 = .ok (.iload 4, 2) := by decide +kernel
theorem dX8_areaBoth_65 : decode cX8_areaBoth 65 = .ok (.iconst 3, 1) := by decide +kernel
theorem dX8_areaBoth_66 : decode cX8_areaBoth 66 = .ok (.invokevirtual 96, 3) := by decide +kernel
theorem dX8_areaBoth_69 : decode cX8_areaBoth 69 = .ok (.invokestatic 108, 3) := by decide +kernel
theorem dX8_areaBoth_72 : decode cX8_areaBoth 72 = .ok (.invokestatic 100, 3) := by decide +kernel
theorem dX8_areaBoth_75 : decode cX8_areaBoth 75 = .ok (.lreturn, 1) := by decide +kernel
theorem dX8_meet_0 : decode cX8_meet 0 = .ok (.aload_n 0, 1) := by decide +kernel
theorem dX8_meet_1 : decode cX8_meet 1 = .ok (.iload_n 1, 1) := by decide +kernel
theorem dX8_meet_2 : decode cX8_meet 2 = .ok (.iload_n 2, 1) := by decide +kernel
theorem dX8_meet_3 : decode cX8_meet 3 = .ok (.iconst 0, 1) := by decide +kernel
theorem dX8_meet_4 : decode cX8_meet 4 = .ok (.invokevirtual 96, 3) := by decide +kernel
theorem dX8_meet_7 : decode cX8_meet 7 = .ok (.aload_n 0, 1) := by decide +kernel
theorem dX8_meet_8 : decode cX8_meet 8 = .ok (.iload_n 3, 1) := by decide +kernel
theorem dX8_meet_9 : decode cX8_meet 9 = .ok (.iload 4, 2) := by decide +kernel
theorem dX8_meet_11 : decode cX8_meet 11 = .ok (.iconst 2, 1) := by decide +kernel
theorem dX8_meet_12 : decode cX8_meet 12 = .ok (.invokevirtual 96, 3) := by decide +kernel
theorem dX8_meet_15 : decode cX8_meet 15 = .ok (.if_icmp .gt 61, 3) := by decide +kernel
theorem dX8_meet_18 : decode cX8_meet 18 = .ok (.aload_n 0, 1) := by decide +kernel
theorem dX8_meet_19 : decode cX8_meet 19 = .ok (.iload_n 3, 1) := by decide +kernel
theorem dX8_meet_20 : decode cX8_meet 20 = .ok (.iload 4, 2) := by decide +kernel
theorem dX8_meet_22 : decode cX8_meet 22 = .ok (.iconst 0, 1) := by decide +kernel
theorem dX8_meet_23 : decode cX8_meet 23 = .ok (.invokevirtual 96, 3) := by decide +kernel
theorem dX8_meet_26 : decode cX8_meet 26 = .ok (.aload_n 0, 1) := by decide +kernel
theorem dX8_meet_27 : decode cX8_meet 27 = .ok (.iload_n 1, 1) := by decide +kernel
theorem dX8_meet_28 : decode cX8_meet 28 = .ok (.iload_n 2, 1) := by decide +kernel
theorem dX8_meet_29 : decode cX8_meet 29 = .ok (.iconst 2, 1) := by decide +kernel
theorem dX8_meet_30 : decode cX8_meet 30 = .ok (.invokevirtual 96, 3) := by decide +kernel
theorem dX8_meet_33 : decode cX8_meet 33 = .ok (.if_icmp .gt 43, 3) := by decide +kernel
theorem dX8_meet_36 : decode cX8_meet 36 = .ok (.aload_n 0, 1) := by decide +kernel
theorem dX8_meet_37 : decode cX8_meet 37 = .ok (.iload_n 1, 1) := by decide +kernel
theorem dX8_meet_38 : decode cX8_meet 38 = .ok (.iload_n 2, 1) := by decide +kernel
theorem dX8_meet_39 : decode cX8_meet 39 = .ok (.iconst 1, 1) := by decide +kernel
theorem dX8_meet_40 : decode cX8_meet 40 = .ok (.invokevirtual 96, 3) := by decide +kernel
theorem dX8_meet_43 : decode cX8_meet 43 = .ok (.aload_n 0, 1) := by decide +kernel
theorem dX8_meet_44 : decode cX8_meet 44 = .ok (.iload_n 3, 1) := by decide +kernel
theorem dX8_meet_45 : decode cX8_meet 45 = .ok (.iload 4, 2) := by decide +kernel
theorem dX8_meet_47 : decode cX8_meet 47 = .ok (.iconst 3, 1) := by decide +kernel
theorem dX8_meet_48 : decode cX8_meet 48 = .ok (.invokevirtual 96, 3) := by decide +kernel
theorem dX8_meet_51 : decode cX8_meet 51 = .ok (.if_icmp .gt 25, 3) := by decide +kernel
theorem dX8_meet_54 : decode cX8_meet 54 = .ok (.aload_n 0, 1) := by decide +kernel
theorem dX8_meet_55 : decode cX8_meet 55 = .ok (.iload_n 3, 1) := by decide +kernel
theorem dX8_meet_56 : decode cX8_meet 56 = .ok (.iload 4, 2) := by decide +kernel
theorem dX8_meet_58 : decode cX8_meet 58 = .ok (.iconst 1, 1) := by decide +kernel
theorem dX8_meet_59 : decode cX8_meet 59 = .ok (.invokevirtual 96, 3) := by decide +kernel
theorem dX8_meet_62 : decode cX8_meet 62 = .ok (.aload_n 0, 1) := by decide +kernel
theorem dX8_meet_63 : decode cX8_meet 63 = .ok (.iload_n 1, 1) := by decide +kernel
theorem dX8_meet_64 : decode cX8_meet 64 = .ok (.iload_n 2, 1) := by decide +kernel
theorem dX8_meet_65 : decode cX8_meet 65 = .ok (.iconst 3, 1) := by decide +kernel
theorem dX8_meet_66 : decode cX8_meet 66 = .ok (.invokevirtual 96, 3) := by decide +kernel
theorem dX8_meet_69 : decode cX8_meet 69 = .ok (.if_icmp .gt 7, 3) := by decide +kernel
theorem dX8_meet_72 : decode cX8_meet 72 = .ok (.iconst 1, 1) := by decide +kernel
theorem dX8_meet_73 : decode cX8_meet 73 = .ok (.goto 4, 3) := by decide +kernel
theorem dX8_meet_76 : decode cX8_meet 76 = .ok (.iconst 0, 1) := by decide +kernel
theorem dX8_meet_77 : decode cX8_meet 77 = .ok (.ireturn, 1) := by decide +kernel
theorem dX8_meets_0 : decode cX8_meets 0 = .ok (.aload_n 0, 1) := by decide +kernel
theorem dX8_meets_1 : decode cX8_meets 1 = .ok (.iload_n 1, 1) := by decide +kernel
theorem dX8_meets_2 : decode cX8_meets 2 = .ok (.iload_n 2, 1) := by decide +kernel
theorem dX8_meets_3 : decode cX8_meets 3 = .ok (.iconst 0, 1) := by decide +kernel
theorem dX8_meets_4 : decode cX8_meets 4 = .ok (.invokevirtual 96, 3) := by decide +kernel
theorem dX8_meets_7 : decode cX8_meets 7 = .ok (.iload 5, 2) := by decide +kernel
theorem dX8_meets_9 : decode cX8_meets 9 = .ok (.if_icmp .gt 42, 3) := by decide +kernel
theorem dX8_meets_12 : decode cX8_meets 12 = .ok (.iload_n 3, 1) := by decide +kernel
theorem dX8_meets_13 : decode cX8_meets 13 = .ok (.aload_n 0, 1) := by decide +kernel
theorem dX8_meets_14 : decode cX8_meets 14 = .ok (.iload_n 1, 1) := by decide +kernel
theorem dX8_meets_15 : decode cX8_meets 15 = .ok (.iload_n 2, 1) := by decide +kernel
theorem dX8_meets_16 : decode cX8_meets 16 = .ok (.iconst 2, 1) := by decide +kernel
theorem dX8_meets_17 : decode cX8_meets 17 = .ok (.invokevirtual 96, 3) := by decide +kernel
theorem dX8_meets_20 : decode cX8_meets 20 = .ok (.if_icmp .gt 31, 3) := by decide +kernel
theorem dX8_meets_23 : decode cX8_meets 23 = .ok (.aload_n 0, 1) := by decide +kernel
theorem dX8_meets_24 : decode cX8_meets 24 = .ok (.iload_n 1, 1) := by decide +kernel
theorem dX8_meets_25 : decode cX8_meets 25 = .ok (.iload_n 2, 1) := by decide +kernel
theorem dX8_meets_26 : decode cX8_meets 26 = .ok (.iconst 1, 1) := by decide +kernel
theorem dX8_meets_27 : decode cX8_meets 27 = .ok (.invokevirtual 96, 3) := by decide +kernel
theorem dX8_meets_30 : decode cX8_meets 30 = .ok (.iload 6, 2) := by decide +kernel
theorem dX8_meets_32 : decode cX8_meets 32 = .ok (.if_icmp .gt 19, 3) := by decide +kernel
theorem dX8_meets_35 : decode cX8_meets 35 = .ok (.iload 4, 2) := by decide +kernel
theorem dX8_meets_37 : decode cX8_meets 37 = .ok (.aload_n 0, 1) := by decide +kernel
theorem dX8_meets_38 : decode cX8_meets 38 = .ok (.iload_n 1, 1) := by decide +kernel
theorem dX8_meets_39 : decode cX8_meets 39 = .ok (.iload_n 2, 1) := by decide +kernel
theorem dX8_meets_40 : decode cX8_meets 40 = .ok (.iconst 3, 1) := by decide +kernel
theorem dX8_meets_41 : decode cX8_meets 41 = .ok (.invokevirtual 96, 3) := by decide +kernel
theorem dX8_meets_44 : decode cX8_meets 44 = .ok (.if_icmp .gt 7, 3) := by decide +kernel
theorem dX8_meets_47 : decode cX8_meets 47 = .ok (.iconst 1, 1) := by decide +kernel
theorem dX8_meets_48 : decode cX8_meets 48 = .ok (.goto 4, 3) := by decide +kernel
theorem dX8_meets_51 : decode cX8_meets 51 = .ok (.iconst 0, 1) := by decide +kernel
theorem dX8_meets_52 : decode cX8_meets 52 = .ok (.ireturn, 1) := by decide +kernel
theorem dX8_isPlace_0 : decode cX8_isPlace 0 = .ok (.iload_n 0, 1) := by decide +kernel
theorem dX8_isPlace_1 : decode cX8_isPlace 1 = .ok (.ifCond .lt 14, 3) := by decide +kernel
theorem dX8_isPlace_4 : decode cX8_isPlace 4 = .ok (.iload_n 0, 1) := by decide +kernel
theorem dX8_isPlace_5 : decode cX8_isPlace 5 = .ok (.sipush 32767, 3) := by decide +kernel
theorem dX8_isPlace_8 : decode cX8_isPlace 8 = .ok (.if_icmp .gt 7, 3) := by decide +kernel
theorem dX8_isPlace_11 : decode cX8_isPlace 11 = .ok (.iconst 1, 1) := by decide +kernel
theorem dX8_isPlace_12 : decode cX8_isPlace 12 = .ok (.goto 4, 3) := by decide +kernel
theorem dX8_isPlace_15 : decode cX8_isPlace 15 = .ok (.iconst 0, 1) := by decide +kernel
theorem dX8_isPlace_16 : decode cX8_isPlace 16 = .ok (.ireturn, 1) := by decide +kernel
theorem dX8_isRect_0 : decode cX8_isRect 0 = .ok (.iload_n 0, 1) := by decide +kernel
theorem dX8_isRect_1 : decode cX8_isRect 1 = .ok (.invokestatic 111, 3) := by decide +kernel
theorem dX8_isRect_4 : decode cX8_isRect 4 = .ok (.ifCond .eq 38, 3) := by decide +kernel
theorem dX8_isRect_7 : decode cX8_isRect 7 = .ok (.iload_n 1, 1) := by decide +kernel
theorem dX8_isRect_8 : decode cX8_isRect 8 = .ok (.invokestatic 111, 3) := by decide +kernel
theorem dX8_isRect_11 : decode cX8_isRect 11 = .ok (.ifCond .eq 31, 3) := by decide +kernel
theorem dX8_isRect_14 : decode cX8_isRect 14 = .ok (.iload_n 2, 1) := by decide +kernel
theorem dX8_isRect_15 : decode cX8_isRect 15 = .ok (.invokestatic 111, 3) := by decide +kernel
theorem dX8_isRect_18 : decode cX8_isRect 18 = .ok (.ifCond .eq 24, 3) := by decide +kernel
theorem dX8_isRect_21 : decode cX8_isRect 21 = .ok (.iload_n 3, 1) := by decide +kernel
theorem dX8_isRect_22 : decode cX8_isRect 22 = .ok (.invokestatic 111, 3) := by decide +kernel
theorem dX8_isRect_25 : decode cX8_isRect 25 = .ok (.ifCond .eq 17, 3) := by decide +kernel
theorem dX8_isRect_28 : decode cX8_isRect 28 = .ok (.iload_n 0, 1) := by decide +kernel
theorem dX8_isRect_29 : decode cX8_isRect 29 = .ok (.iload_n 2, 1) := by decide +kernel
theorem dX8_isRect_30 : decode cX8_isRect 30 = .ok (.if_icmp .gt 12, 3) := by decide +kernel
theorem dX8_isRect_33 : decode cX8_isRect 33 = .ok (.iload_n 1, 1) := by decide +kernel
theorem dX8_isRect_34 : decode cX8_isRect 34 = .ok (.iload_n 3, 1) := by decide +kernel
theorem dX8_isRect_35 : decode cX8_isRect 35 = .ok (.if_icmp .gt 7, 3) := by decide +kernel
theorem dX8_isRect_38 : decode cX8_isRect 38 = .ok (.iconst 1, 1) := by decide +kernel
theorem dX8_isRect_39 : decode cX8_isRect 39 = .ok (.goto 4, 3) := by decide +kernel
theorem dX8_isRect_42 : decode cX8_isRect 42 = .ok (.iconst 0, 1) := by decide +kernel
theorem dX8_isRect_43 : decode cX8_isRect 43 = .ok (.ireturn, 1) := by decide +kernel
theorem dX8_node_0 : decode cX8_node 0 = .ok (.iconst 0, 1) := by decide +kernel
theorem dX8_node_1 : decode cX8_node 1 = .ok (.istore_n 2, 1) := by decide +kernel
theorem dX8_node_2 : decode cX8_node 2 = .ok (.aload_n 0, 1) := by decide +kernel
theorem dX8_node_3 : decode cX8_node 3 = .ok (.getfield 20, 3) := by decide +kernel
theorem dX8_node_6 : decode cX8_node 6 = .ok (.iload_n 2, 1) := by decide +kernel
theorem dX8_node_7 : decode cX8_node 7 = .ok (.iaload, 1) := by decide +kernel
theorem dX8_node_8 : decode cX8_node 8 = .ok (.ifCond .lt 9, 3) := by decide +kernel
theorem dX8_node_11 : decode cX8_node 11 = .ok (.iinc 2 1, 3) := by decide +kernel
theorem dX8_node_14 : decode cX8_node 14 = .ok (.goto (-12), 3) := by decide +kernel
theorem dX8_node_17 : decode cX8_node 17 = .ok (.aload_n 0, 1) := by decide +kernel
theorem dX8_node_18 : decode cX8_node 18 = .ok (.getfield 20, 3) := by decide +kernel
theorem dX8_node_21 : decode cX8_node 21 = .ok (.iload_n 2, 1) := by decide +kernel
theorem dX8_node_22 : decode cX8_node 22 = .ok (.iload_n 1, 1) := by decide +kernel
theorem dX8_node_23 : decode cX8_node 23 = .ok (.iastore, 1) := by decide +kernel
theorem dX8_node_24 : decode cX8_node 24 = .ok (.aload_n 0, 1) := by decide +kernel
theorem dX8_node_25 : decode cX8_node 25 = .ok (.getfield 23, 3) := by decide +kernel
theorem dX8_node_28 : decode cX8_node 28 = .ok (.iload_n 2, 1) := by decide +kernel
theorem dX8_node_29 : decode cX8_node 29 = .ok (.iconst 0, 1) := by decide +kernel
theorem dX8_node_30 : decode cX8_node 30 = .ok (.iastore, 1) := by decide +kernel
theorem dX8_node_31 : decode cX8_node 31 = .ok (.aload_n 0, 1) := by decide +kernel
theorem dX8_node_32 : decode cX8_node 32 = .ok (.getfield 32, 3) := by decide +kernel
theorem dX8_node_35 : decode cX8_node 35 = .ok (.iload_n 2, 1) := by decide +kernel
theorem dX8_node_36 : decode cX8_node 36 = .ok (.bipush (-2), 2) := by decide +kernel
theorem dX8_node_38 : decode cX8_node 38 = .ok (.iastore, 1) := by decide +kernel
theorem dX8_node_39 : decode cX8_node 39 = .ok (.iload_n 2, 1) := by decide +kernel
theorem dX8_node_40 : decode cX8_node 40 = .ok (.ireturn, 1) := by decide +kernel
theorem dX8_heldBy_0 : decode cX8_heldBy 0 = .ok (.aload_n 0, 1) := by decide +kernel
theorem dX8_heldBy_1 : decode cX8_heldBy 1 = .ok (.getfield 26, 3) := by decide +kernel
theorem dX8_heldBy_4 : decode cX8_heldBy 4 = .ok (.bipush 11, 2) := by decide +kernel
theorem dX8_heldBy_6 : decode cX8_heldBy 6 = .ok (.iload_n 1, 1) := by decide +kernel
theorem dX8_heldBy_7 : decode cX8_heldBy 7 = .ok (.imul, 1) := by decide +kernel
theorem dX8_heldBy_8 : decode cX8_heldBy 8 = .ok (.iload_n 2, 1) := by decide +kernel
theorem dX8_heldBy_9 : decode cX8_heldBy 9 = .ok (.iadd, 1) := by decide +kernel
theorem dX8_heldBy_10 : decode cX8_heldBy 10 = .ok (.iaload, 1) := by decide +kernel
theorem dX8_heldBy_11 : decode cX8_heldBy 11 = .ok (.ireturn, 1) := by decide +kernel
theorem dX8_hold_0 : decode cX8_hold 0 = .ok (.aload_n 0, 1) := by decide +kernel
theorem dX8_hold_1 : decode cX8_hold 1 = .ok (.getfield 26, 3) := by decide +kernel
theorem dX8_hold_4 : decode cX8_hold 4 = .ok (.bipush 11, 2) := by decide +kernel
theorem dX8_hold_6 : decode cX8_hold 6 = .ok (.iload_n 1, 1) := by decide +kernel
theorem dX8_hold_7 : decode cX8_hold 7 = .ok (.imul, 1) := by decide +kernel
theorem dX8_hold_8 : decode cX8_hold 8 = .ok (.aload_n 0, 1) := by decide +kernel
theorem dX8_hold_9 : decode cX8_hold 9 = .ok (.getfield 23, 3) := by decide +kernel
theorem dX8_hold_12 : decode cX8_hold 12 = .ok (.iload_n 1, 1) := by decide +kernel
theorem dX8_hold_13 : decode cX8_hold 13 = .ok (.iaload, 1) := by decide +kernel
theorem dX8_hold_14 : decode cX8_hold 14 = .ok (.iadd, 1) := by decide +kernel
theorem dX8_hold_15 : decode cX8_hold 15 = .ok (.iload_n 2, 1) := by decide +kernel
theorem dX8_hold_16 : decode cX8_hold 16 = .ok (.iastore, 1) := by decide +kernel
theorem dX8_hold_17 : decode cX8_hold 17 = .ok (.aload_n 0, 1) := by decide +kernel
theorem dX8_hold_18 : decode cX8_hold 18 = .ok (.getfield 23, 3) := by decide +kernel
theorem dX8_hold_21 : decode cX8_hold 21 = .ok (.iload_n 1, 1) := by decide +kernel
theorem dX8_hold_22 : decode cX8_hold 22 = .ok (.dup2, 1) := by decide +kernel
theorem dX8_hold_23 : decode cX8_hold 23 = .ok (.iaload, 1) := by decide +kernel
theorem dX8_hold_24 : decode cX8_hold 24 = .ok (.iconst 1, 1) := by decide +kernel
theorem dX8_hold_25 : decode cX8_hold 25 = .ok (.iadd, 1) := by decide +kernel
theorem dX8_hold_26 : decode cX8_hold 26 = .ok (.iastore, 1) := by decide +kernel
theorem dX8_hold_27 : decode cX8_hold 27 = .ok (.aload_n 0, 1) := by decide +kernel
theorem dX8_hold_28 : decode cX8_hold 28 = .ok (.getfield 20, 3) := by decide +kernel
theorem dX8_hold_31 : decode cX8_hold 31 = .ok (.iload_n 1, 1) := by decide +kernel
theorem dX8_hold_32 : decode cX8_hold 32 = .ok (.iaload, 1) := by decide +kernel
theorem dX8_hold_33 : decode cX8_hold 33 = .ok (.ifCond .le 10, 3) := by decide +kernel
theorem dX8_hold_36 : decode cX8_hold 36 = .ok (.aload_n 0, 1) := by decide +kernel
theorem dX8_hold_37 : decode cX8_hold 37 = .ok (.getfield 32, 3) := by decide +kernel
theorem dX8_hold_40 : decode cX8_hold 40 = .ok (.iload_n 2, 1) := by decide +kernel
theorem dX8_hold_41 : decode cX8_hold 41 = .ok (.iload_n 1, 1) := by decide +kernel
theorem dX8_hold_42 : decode cX8_hold 42 = .ok (.iastore, 1) := by decide +kernel
theorem dX8_hold_43 : decode cX8_hold 43 = .ok (.return_, 1) := by decide +kernel
theorem dX8_measure_0 : decode cX8_measure 0 = .ok (.iconst 0, 1) := by decide +kernel
theorem dX8_measure_1 : decode cX8_measure 1 = .ok (.istore_n 2, 1) := by decide +kernel
theorem dX8_measure_2 : decode cX8_measure 2 = .ok (.iload_n 2, 1) := by decide +kernel
theorem dX8_measure_3 : decode cX8_measure 3 = .ok (.iconst 4, 1) := by decide +kernel
theorem dX8_measure_4 : decode cX8_measure 4 = .ok (.if_icmp .ge 101, 3) := by decide +kernel
theorem dX8_measure_7 : decode cX8_measure 7 = .ok (.iconst 0, 1) := by decide +kernel
theorem dX8_measure_8 : decode cX8_measure 8 = .ok (.istore_n 3, 1) := by decide +kernel
theorem dX8_measure_9 : decode cX8_measure 9 = .ok (.iload_n 3, 1) := by decide +kernel
theorem dX8_measure_10 : decode cX8_measure 10 = .ok (.aload_n 0, 1) := by decide +kernel
theorem dX8_measure_11 : decode cX8_measure 11 = .ok (.getfield 23, 3) := by decide +kernel
theorem dX8_measure_14 : decode cX8_measure 14 = .ok (.iload_n 1, 1) := by decide +kernel
theorem dX8_measure_15 : decode cX8_measure 15 = .ok (.iaload, 1) := by decide +kernel
theorem dX8_measure_16 : decode cX8_measure 16 = .ok (.if_icmp .ge 83, 3) := by decide +kernel
theorem dX8_measure_19 : decode cX8_measure 19 = .ok (.aload_n 0, 1) := by decide +kernel
theorem dX8_measure_20 : decode cX8_measure 20 = .ok (.aload_n 0, 1) := by decide +kernel
theorem dX8_measure_21 : decode cX8_measure 21 = .ok (.getfield 20, 3) := by decide +kernel
theorem dX8_measure_24 : decode cX8_measure 24 = .ok (.iload_n 1, 1) := by decide +kernel
theorem dX8_measure_25 : decode cX8_measure 25 = .ok (.iaload, 1) := by decide +kernel
theorem dX8_measure_26 : decode cX8_measure 26 = .ok (.iconst 1, 1) := by decide +kernel
theorem dX8_measure_27 : decode cX8_measure 27 = .ok (.isub, 1) := by decide +kernel
theorem dX8_measure_28 : decode cX8_measure 28 = .ok (.aload_n 0, 1) := by decide +kernel
theorem dX8_measure_29 : decode cX8_measure 29 = .ok (.iload_n 1, 1) := by decide +kernel
theorem dX8_measure_30 : decode cX8_measure 30 = .ok (.iload_n 3, 1) := by decide +kernel
theorem dX8_measure_31 : decode cX8_measure 31 = .ok (.invokevirtual 115, 3) := by decide +kernel
theorem dX8_measure_34 : decode cX8_measure 34 = .ok (.iload_n 2, 1) := by decide +kernel
theorem dX8_measure_35 : decode cX8_measure 35 = .ok (.invokevirtual 96, 3) := by decide +kernel
theorem dX8_measure_38 : decode cX8_measure 38 = .ok (.istore 4, 2) := by decide +kernel
theorem dX8_measure_40 : decode cX8_measure 40 = .ok (.aload_n 0, 1) := by decide +kernel
theorem dX8_measure_41 : decode cX8_measure 41 = .ok (.getfield 29, 3) := by decide +kernel
theorem dX8_measure_44 : decode cX8_measure 44 = .ok (.iconst 4, 1) := by decide +kernel
theorem dX8_measure_45 : decode cX8_measure 45 = .ok (.iload_n 1, 1) := by decide +kernel
theorem dX8_measure_46 : decode cX8_measure 46 = .ok (.imul, 1) := by decide +kernel
theorem dX8_measure_47 : decode cX8_measure 47 = .ok (.iload_n 2, 1) := by decide +kernel
theorem dX8_measure_48 : decode cX8_measure 48 = .ok (.iadd, 1) := by decide +kernel
theorem dX8_measure_49 : decode cX8_measure 49 = .ok (.iaload, 1) := by decide +kernel
theorem dX8_measure_50 : decode cX8_measure 50 = .ok (.istore 5, 2) := by decide +kernel
theorem dX8_measure_52 : decode cX8_measure 52 = .ok (.aload_n 0, 1) := by decide +kernel
theorem dX8_measure_53 : decode cX8_measure 53 = .ok (.getfield 29, 3) := by decide +kernel
theorem dX8_measure_56 : decode cX8_measure 56 = .ok (.iconst 4, 1) := by decide +kernel
theorem dX8_measure_57 : decode cX8_measure 57 = .ok (.iload_n 1, 1) := by decide +kernel
theorem dX8_measure_58 : decode cX8_measure 58 = .ok (.imul, 1) := by decide +kernel
theorem dX8_measure_59 : decode cX8_measure 59 = .ok (.iload_n 2, 1) := by decide +kernel
theorem dX8_measure_60 : decode cX8_measure 60 = .ok (.iadd, 1) := by decide +kernel
theorem dX8_measure_61 : decode cX8_measure 61 = .ok (.iload_n 3, 1) := by decide +kernel
theorem dX8_measure_62 : decode cX8_measure 62 = .ok (.ifCond .ne 8, 3) := by decide +kernel
theorem dX8_measure_65 : decode cX8_measure 65 = .ok (.iload 4, 2) := by decide +kernel
theorem dX8_measure_67 : decode cX8_measure 67 = .ok (.goto 25, 3) := by decide +kernel
theorem dX8_measure_70 : decode cX8_measure 70 = .ok (.iload_n 2, 1) := by decide +kernel
theorem dX8_measure_71 : decode cX8_measure 71 = .ok (.iconst 2, 1) := by decide +kernel
theorem dX8_measure_72 : decode cX8_measure 72 = .ok (.if_icmp .ge 13, 3) := by decide +kernel
theorem dX8_measure_75 : decode cX8_measure 75 = .ok (.iload 5, 2) := by decide +kernel
theorem dX8_measure_77 : decode cX8_measure 77 = .ok (.iload 4, 2) := by decide +kernel
theorem dX8_measure_79 : decode cX8_measure 79 = .ok (.invokestatic 104, 3) := by decide +kernel
theorem dX8_measure_82 : decode cX8_measure 82 = .ok (.goto 10, 3) := by decide +kernel
theorem dX8_measure_85 : decode cX8_measure 85 = .ok (.iload 5, 2) := by decide +kernel
theorem dX8_measure_87 : decode cX8_measure 87 = .ok (.iload 4, 2) := by decide +kernel
theorem dX8_measure_89 : decode cX8_measure 89 = .ok (.invokestatic 108, 3) := by decide +kernel
theorem dX8_measure_92 : decode cX8_measure 92 = .ok (.iastore, 1) := by decide +kernel
theorem dX8_measure_93 : decode cX8_measure 93 = .ok (.iinc 3 1, 3) := by decide +kernel
theorem dX8_measure_96 : decode cX8_measure 96 = .ok (.goto (-87), 3) := by decide +kernel
theorem dX8_measure_99 : decode cX8_measure 99 = .ok (.iinc 2 1, 3) := by decide +kernel
theorem dX8_measure_102 : decode cX8_measure 102 = .ok (.goto (-100), 3) := by decide +kernel
theorem dX8_measure_105 : decode cX8_measure 105 = .ok (.return_, 1) := by decide +kernel
theorem dX8_measureUp_0 : decode cX8_measureUp 0 = .ok (.iload_n 1, 1) := by decide +kernel
theorem dX8_measureUp_1 : decode cX8_measureUp 1 = .ok (.istore_n 2, 1) := by decide +kernel
theorem dX8_measureUp_2 : decode cX8_measureUp 2 = .ok (.iload_n 2, 1) := by decide +kernel
theorem dX8_measureUp_3 : decode cX8_measureUp 3 = .ok (.ifCond .lt 18, 3) := by decide +kernel
theorem dX8_measureUp_6 : decode cX8_measureUp 6 = .ok (.aload_n 0, 1) := by decide +kernel
theorem dX8_measureUp_7 : decode cX8_measureUp 7 = .ok (.iload_n 2, 1) := by decide +kernel
theorem dX8_measureUp_8 : decode cX8_measureUp 8 = .ok (.invokevirtual 118, 3) := by decide +kernel
theorem dX8_measureUp_11 : decode cX8_measureUp 11 = .ok (.aload_n 0, 1) := by decide +kernel
theorem dX8_measureUp_12 : decode cX8_measureUp 12 = .ok (.getfield 32, 3) := by decide +kernel
theorem dX8_measureUp_15 : decode cX8_measureUp 15 = .ok (.iload_n 2, 1) := by decide +kernel
theorem dX8_measureUp_16 : decode cX8_measureUp 16 = .ok (.iaload, 1) := by decide +kernel
theorem dX8_measureUp_17 : decode cX8_measureUp 17 = .ok (.istore_n 2, 1) := by decide +kernel
theorem dX8_measureUp_18 : decode cX8_measureUp 18 = .ok (.goto (-16), 3) := by decide +kernel
theorem dX8_measureUp_21 : decode cX8_measureUp 21 = .ok (.return_, 1) := by decide +kernel
theorem dX8_placeIn_0 : decode cX8_placeIn 0 = .ok (.iconst 0, 1) := by decide +kernel
theorem dX8_placeIn_1 : decode cX8_placeIn 1 = .ok (.istore_n 3, 1) := by decide +kernel
theorem dX8_placeIn_2 : decode cX8_placeIn 2 = .ok (.aload_n 0, 1) := by decide +kernel
theorem dX8_placeIn_3 : decode cX8_placeIn 3 = .ok (.iload_n 1, 1) := by decide +kernel
theorem dX8_placeIn_4 : decode cX8_placeIn 4 = .ok (.iload_n 3, 1) := by decide +kernel
theorem dX8_placeIn_5 : decode cX8_placeIn 5 = .ok (.invokevirtual 115, 3) := by decide +kernel
theorem dX8_placeIn_8 : decode cX8_placeIn 8 = .ok (.iload_n 2, 1) := by decide +kernel
theorem dX8_placeIn_9 : decode cX8_placeIn 9 = .ok (.if_icmp .eq 9, 3) := by decide +kernel
theorem dX8_placeIn_12 : decode cX8_placeIn 12 = .ok (.iinc 3 1, 3) := by decide +kernel
theorem dX8_placeIn_15 : decode cX8_placeIn 15 = .ok (.goto (-13), 3) := by decide +kernel
theorem dX8_placeIn_18 : decode cX8_placeIn 18 = .ok (.iload_n 3, 1) := by decide +kernel
theorem dX8_placeIn_19 : decode cX8_placeIn 19 = .ok (.ireturn, 1) := by decide +kernel
theorem dX8_takeFrom_0 : decode cX8_takeFrom 0 = .ok (.aload_n 0, 1) := by decide +kernel
theorem dX8_takeFrom_1 : decode cX8_takeFrom 1 = .ok (.iload_n 1, 1) := by decide +kernel
theorem dX8_takeFrom_2 : decode cX8_takeFrom 2 = .ok (.iload_n 2, 1) := by decide +kernel
theorem dX8_takeFrom_3 : decode cX8_takeFrom 3 = .ok (.invokevirtual 122, 3) := by decide +kernel
theorem dX8_takeFrom_6 : decode cX8_takeFrom 6 = .ok (.istore_n 3, 1) := by decide +kernel
theorem dX8_takeFrom_7 : decode cX8_takeFrom 7 = .ok (.iload_n 3, 1) := by decide +kernel
theorem dX8_takeFrom_8 : decode cX8_takeFrom 8 = .ok (.iconst 1, 1) := by decide +kernel
theorem dX8_takeFrom_9 : decode cX8_takeFrom 9 = .ok (.iadd, 1) := by decide +kernel
theorem dX8_takeFrom_10 : decode cX8_takeFrom 10 = .ok (.aload_n 0, 1) := by decide +kernel
theorem dX8_takeFrom_11 : decode cX8_takeFrom 11 = .ok (.getfield 23, 3) := by decide +kernel
theorem dX8_takeFrom_14 : decode cX8_takeFrom 14 = .ok (.iload_n 1, 1) := by decide +kernel
theorem dX8_takeFrom_15 : decode cX8_takeFrom 15 = .ok (.iaload, 1) := by decide +kernel
theorem dX8_takeFrom_16 : decode cX8_takeFrom 16 = .ok (.if_icmp .ge 33, 3) := by decide +kernel
theorem dX8_takeFrom_19 : decode cX8_takeFrom 19 = .ok (.aload_n 0, 1) := by decide +kernel
theorem dX8_takeFrom_20 : decode cX8_takeFrom 20 = .ok (.getfield 26, 3) := by decide +kernel
theorem dX8_takeFrom_23 : decode cX8_takeFrom 23 = .ok (.bipush 11, 2) := by decide +kernel
theorem dX8_takeFrom_25 : decode cX8_takeFrom 25 = .ok (.iload_n 1, 1) := by decide +kernel
theorem dX8_takeFrom_26 : decode cX8_takeFrom 26 = .ok (.imul, 1) := by decide +kernel
theorem dX8_takeFrom_27 : decode cX8_takeFrom 27 = .ok (.iload_n 3, 1) := by decide +kernel
theorem dX8_takeFrom_28 : decode cX8_takeFrom 28 = .ok (.iadd, 1) := by decide +kernel
theorem dX8_takeFrom_29 : decode cX8_takeFrom 29 = .ok (.aload_n 0, 1) := by decide +kernel
theorem dX8_takeFrom_30 : decode cX8_takeFrom 30 = .ok (.getfield 26, 3) := by decide +kernel
theorem dX8_takeFrom_33 : decode cX8_takeFrom 33 = .ok (.bipush 11, 2) := by decide +kernel
theorem dX8_takeFrom_35 : decode cX8_takeFrom 35 = .ok (.iload_n 1, 1) := by decide +kernel
theorem dX8_takeFrom_36 : decode cX8_takeFrom 36 = .ok (.imul, 1) := by decide +kernel
theorem dX8_takeFrom_37 : decode cX8_takeFrom 37 = .ok (.iload_n 3, 1) := by decide +kernel
theorem dX8_takeFrom_38 : decode cX8_takeFrom 38 = .ok (.iadd, 1) := by decide +kernel
theorem dX8_takeFrom_39 : decode cX8_takeFrom 39 = .ok (.iconst 1, 1) := by decide +kernel
theorem dX8_takeFrom_40 : decode cX8_takeFrom 40 = .ok (.iadd, 1) := by decide +kernel
theorem dX8_takeFrom_41 : decode cX8_takeFrom 41 = .ok (.iaload, 1) := by decide +kernel
theorem dX8_takeFrom_42 : decode cX8_takeFrom 42 = .ok (.iastore, 1) := by decide +kernel
theorem dX8_takeFrom_43 : decode cX8_takeFrom 43 = .ok (.iinc 3 1, 3) := by decide +kernel
theorem dX8_takeFrom_46 : decode cX8_takeFrom 46 = .ok (.goto (-39), 3) := by decide +kernel
theorem dX8_takeFrom_49 : decode cX8_takeFrom 49 = .ok (.aload_n 0, 1) := by decide +kernel
theorem dX8_takeFrom_50 : decode cX8_takeFrom 50 = .ok (.getfield 23, 3) := by decide +kernel
theorem dX8_takeFrom_53 : decode cX8_takeFrom 53 = .ok (.iload_n 1, 1) := by decide +kernel
theorem dX8_takeFrom_54 : decode cX8_takeFrom 54 = .ok (.dup2, 1) := by decide +kernel
theorem dX8_takeFrom_55 : decode cX8_takeFrom 55 = .ok (.iaload, 1) := by decide +kernel
theorem dX8_takeFrom_56 : decode cX8_takeFrom 56 = .ok (.iconst 1, 1) := by decide +kernel
theorem dX8_takeFrom_57 : decode cX8_takeFrom 57 = .ok (.isub, 1) := by decide +kernel
theorem dX8_takeFrom_58 : decode cX8_takeFrom 58 = .ok (.iastore, 1) := by decide +kernel
theorem dX8_takeFrom_59 : decode cX8_takeFrom 59 = .ok (.return_, 1) := by decide +kernel
theorem dX8_choose_0 : decode cX8_choose 0 = .ok (.bipush (-2), 2) := by decide +kernel
theorem dX8_choose_2 : decode cX8_choose 2 = .ok (.istore 4, 2) := by decide +kernel
theorem dX8_choose_4 : decode cX8_choose 4 = .ok (.lconst 0, 1) := by decide +kernel
theorem dX8_choose_5 : decode cX8_choose 5 = .ok (.lstore 5, 2) := by decide +kernel
theorem dX8_choose_7 : decode cX8_choose 7 = .ok (.lconst 0, 1) := by decide +kernel
theorem dX8_choose_8 : decode cX8_choose 8 = .ok (.lstore 7, 2) := by decide +kernel
theorem dX8_choose_10 : decode cX8_choose 10 = .ok (.iconst 0, 1) := by decide +kernel
theorem dX8_choose_11 : decode cX8_choose 11 = .ok (.istore 9, 2) := by decide +kernel
theorem dX8_choose_13 : decode cX8_choose 13 = .ok (.iload 9, 2) := by decide +kernel
theorem dX8_choose_15 : decode cX8_choose 15 = .ok (.aload_n 0, 1) := by decide +kernel
theorem dX8_choose_16 : decode cX8_choose 16 = .ok (.getfield 23, 3) := by decide +kernel
theorem dX8_choose_19 : decode cX8_choose 19 = .ok (.iload_n 1, 1) := by decide +kernel
theorem dX8_choose_20 : decode cX8_choose 20 = .ok (.iaload, 1) := by decide +kernel
theorem dX8_choose_21 : decode cX8_choose 21 = .ok (.if_icmp .ge 94, 3) := by decide +kernel
theorem dX8_choose_24 : decode cX8_choose 24 = .ok (.aload_n 0, 1) := by decide +kernel
theorem dX8_choose_25 : decode cX8_choose 25 = .ok (.iload_n 1, 1) := by decide +kernel
theorem dX8_choose_26 : decode cX8_choose 26 = .ok (.iload 9, 2) := by decide +kernel
theorem dX8_choose_28 : decode cX8_choose 28 = .ok (.invokevirtual 115, 3) := by decide +kernel
theorem dX8_choose_31 : decode cX8_choose 31 = .ok (.istore 10, 2) := by decide +kernel
theorem dX8_choose_33 : decode cX8_choose 33 = .ok (.aload_n 0, 1) := by decide +kernel
theorem dX8_choose_34 : decode cX8_choose 34 = .ok (.aload_n 0, 1) := by decide +kernel
theorem dX8_choose_35 : decode cX8_choose 35 = .ok (.getfield 20, 3) := by decide +kernel
theorem dX8_choose_38 : decode cX8_choose 38 = .ok (.iload 10, 2) := by decide +kernel
theorem dX8_choose_40 : decode cX8_choose 40 = .ok (.iaload, 1) := by decide +kernel
theorem dX8_choose_41 : decode cX8_choose 41 = .ok (.iload 10, 2) := by decide +kernel
theorem dX8_choose_43 : decode cX8_choose 43 = .ok (.invokevirtual 125, 3) := by decide +kernel
theorem dX8_choose_46 : decode cX8_choose 46 = .ok (.lstore 11, 2) := by decide +kernel
theorem dX8_choose_48 : decode cX8_choose 48 = .ok (.aload_n 0, 1) := by decide +kernel
theorem dX8_choose_49 : decode cX8_choose 49 = .ok (.aload_n 0, 1) := by decide +kernel
theorem dX8_choose_50 : decode cX8_choose 50 = .ok (.getfield 20, 3) := by decide +kernel
theorem dX8_choose_53 : decode cX8_choose 53 = .ok (.iload 10, 2) := by decide +kernel
theorem dX8_choose_55 : decode cX8_choose 55 = .ok (.iaload, 1) := by decide +kernel
theorem dX8_choose_56 : decode cX8_choose 56 = .ok (.iload 10, 2) := by decide +kernel
theorem dX8_choose_58 : decode cX8_choose 58 = .ok (.iload_n 2, 1) := by decide +kernel
theorem dX8_choose_59 : decode cX8_choose 59 = .ok (.iload_n 3, 1) := by decide +kernel
theorem dX8_choose_60 : decode cX8_choose 60 = .ok (.invokevirtual 129, 3) := by decide +kernel
theorem dX8_choose_63 : decode cX8_choose 63 = .ok (.lload 11, 2) := by decide +kernel
theorem dX8_choose_65 : decode cX8_choose 65 = .ok (.lsub, 1) := by decide +kernel
theorem dX8_choose_66 : decode cX8_choose 66 = .ok (.lstore 13, 2) := by decide +kernel
theorem dX8_choose_68 : decode cX8_choose 68 = .ok (.iload 4, 2) := by decide +kernel
theorem dX8_choose_70 : decode cX8_choose 70 = .ok (.ifCond .lt 27, 3) := by decide +kernel
theorem dX8_choose_73 : decode cX8_choose 73 = .ok (.lload 13, 2) := by decide +kernel
theorem dX8_choose_75 : decode cX8_choose 75 = .ok (.lload 5, 2) := by decide +kernel
theorem dX8_choose_77 : decode cX8_choose 77 = .ok (.lcmp, 1) := by decide +kernel
theorem dX8_choose_78 : decode cX8_choose 78 = .ok (.ifCond .lt 19, 3) := by decide +kernel
theorem dX8_choose_81 : decode cX8_choose 81 = .ok (.lload 13, 2) := by decide +kernel
theorem dX8_choose_83 : decode cX8_choose 83 = .ok (.lload 5, 2) := by decide +kernel
theorem dX8_choose_85 : decode cX8_choose 85 = .ok (.lcmp, 1) := by decide +kernel
theorem dX8_choose_86 : decode cX8_choose 86 = .ok (.ifCond .ne 23, 3) := by decide +kernel
theorem dX8_choose_89 : decode cX8_choose 89 = .ok (.lload 11, 2) := by decide +kernel
theorem dX8_choose_91 : decode cX8_choose 91 = .ok (.lload 7, 2) := by decide +kernel
theorem dX8_choose_93 : decode cX8_choose 93 = .ok (.lcmp, 1) := by decide +kernel
theorem dX8_choose_94 : decode cX8_choose 94 = .ok (.ifCond .ge 15, 3) := by decide +kernel
theorem dX8_choose_97 : decode cX8_choose 97 = .ok (.iload 10, 2) := by decide +kernel
theorem dX8_choose_99 : decode cX8_choose 99 = .ok (.istore 4, 2) := by decide +kernel
theorem dX8_choose_101 : decode cX8_choose 101 = .ok (.lload 13, 2) := by decide +kernel
theorem dX8_choose_103 : decode cX8_choose 103 = .ok (.lstore 5, 2) := by decide +kernel
theorem dX8_choose_105 : decode cX8_choose 105 = .ok (.lload 11, 2) := by decide +kernel
theorem dX8_choose_107 : decode cX8_choose 107 = .ok (.lstore 7, 2) := by decide +kernel
theorem dX8_choose_109 : decode cX8_choose 109 = .ok (.iinc 9 1, 3) := by decide +kernel
theorem dX8_choose_112 : decode cX8_choose 112 = .ok (.goto (-99), 3) := by decide +kernel
theorem dX8_choose_115 : decode cX8_choose 115 = .ok (.iload 4, 2) := by decide +kernel
theorem dX8_choose_117 : decode cX8_choose 117 = .ok (.ireturn, 1) := by decide +kernel
theorem dX8_put_0 : decode cX8_put 0 = .ok (.aload_n 0, 1) := by decide +kernel
theorem dX8_put_1 : decode cX8_put 1 = .ok (.getfield 93, 3) := by decide +kernel
theorem dX8_put_4 : decode cX8_put 4 = .ok (.istore_n 3, 1) := by decide +kernel
theorem dX8_put_5 : decode cX8_put 5 = .ok (.aload_n 0, 1) := by decide +kernel
theorem dX8_put_6 : decode cX8_put 6 = .ok (.getfield 20, 3) := by decide +kernel
theorem dX8_put_9 : decode cX8_put 9 = .ok (.iload_n 3, 1) := by decide +kernel
theorem dX8_put_10 : decode cX8_put 10 = .ok (.iaload, 1) := by decide +kernel
theorem dX8_put_11 : decode cX8_put 11 = .ok (.iload_n 1, 1) := by decide +kernel
theorem dX8_put_12 : decode cX8_put 12 = .ok (.iconst 1, 1) := by decide +kernel
theorem dX8_put_13 : decode cX8_put 13 = .ok (.iadd, 1) := by decide +kernel
theorem dX8_put_14 : decode cX8_put 14 = .ok (.if_icmp .le 14, 3) := by decide +kernel
theorem dX8_put_17 : decode cX8_put 17 = .ok (.aload_n 0, 1) := by decide +kernel
theorem dX8_put_18 : decode cX8_put 18 = .ok (.iload_n 3, 1) := by decide +kernel
theorem dX8_put_19 : decode cX8_put 19 = .ok (.iload_n 1, 1) := by decide +kernel
theorem dX8_put_20 : decode cX8_put 20 = .ok (.iload_n 2, 1) := by decide +kernel
theorem dX8_put_21 : decode cX8_put 21 = .ok (.invokevirtual 132, 3) := by decide +kernel
theorem dX8_put_24 : decode cX8_put 24 = .ok (.istore_n 3, 1) := by decide +kernel
theorem dX8_put_25 : decode cX8_put 25 = .ok (.goto (-20), 3) := by decide +kernel
theorem dX8_put_28 : decode cX8_put 28 = .ok (.aload_n 0, 1) := by decide +kernel
theorem dX8_put_29 : decode cX8_put 29 = .ok (.iload_n 3, 1) := by decide +kernel
theorem dX8_put_30 : decode cX8_put 30 = .ok (.iload_n 2, 1) := by decide +kernel
theorem dX8_put_31 : decode cX8_put 31 = .ok (.invokevirtual 135, 3) := by decide +kernel
theorem dX8_put_34 : decode cX8_put 34 = .ok (.aload_n 0, 1) := by decide +kernel
theorem dX8_put_35 : decode cX8_put 35 = .ok (.iload_n 3, 1) := by decide +kernel
theorem dX8_put_36 : decode cX8_put 36 = .ok (.invokevirtual 139, 3) := by decide +kernel
theorem dX8_put_39 : decode cX8_put 39 = .ok (.iload_n 3, 1) := by decide +kernel
theorem dX8_put_40 : decode cX8_put 40 = .ok (.ifCond .lt 35, 3) := by decide +kernel
theorem dX8_put_43 : decode cX8_put 43 = .ok (.aload_n 0, 1) := by decide +kernel
theorem dX8_put_44 : decode cX8_put 44 = .ok (.getfield 32, 3) := by decide +kernel
theorem dX8_put_47 : decode cX8_put 47 = .ok (.iload_n 3, 1) := by decide +kernel
theorem dX8_put_48 : decode cX8_put 48 = .ok (.iaload, 1) := by decide +kernel
theorem dX8_put_49 : decode cX8_put 49 = .ok (.istore 4, 2) := by decide +kernel
theorem dX8_put_51 : decode cX8_put 51 = .ok (.aload_n 0, 1) := by decide +kernel
theorem dX8_put_52 : decode cX8_put 52 = .ok (.getfield 23, 3) := by decide +kernel
theorem dX8_put_55 : decode cX8_put 55 = .ok (.iload_n 3, 1) := by decide +kernel
theorem dX8_put_56 : decode cX8_put 56 = .ok (.iaload, 1) := by decide +kernel
theorem dX8_put_57 : decode cX8_put 57 = .ok (.aload_n 0, 1) := by decide +kernel
theorem dX8_put_58 : decode cX8_put 58 = .ok (.getfield 83, 3) := by decide +kernel
theorem dX8_put_61 : decode cX8_put 61 = .ok (.if_icmp .le 8, 3) := by decide +kernel
theorem dX8_put_64 : decode cX8_put 64 = .ok (.aload_n 0, 1) := by decide +kernel
theorem dX8_put_65 : decode cX8_put 65 = .ok (.iload_n 3, 1) := by decide +kernel
theorem dX8_put_66 : decode cX8_put 66 = .ok (.invokevirtual 142, 3) := by decide +kernel
theorem dX8_put_69 : decode cX8_put 69 = .ok (.iload 4, 2) := by decide +kernel
theorem dX8_put_71 : decode cX8_put 71 = .ok (.istore_n 3, 1) := by decide +kernel
theorem dX8_put_72 : decode cX8_put 72 = .ok (.goto (-33), 3) := by decide +kernel
theorem dX8_put_75 : decode cX8_put 75 = .ok (.return_, 1) := by decide +kernel
theorem dX8_split_0 : decode cX8_split 0 = .ok (.aload_n 0, 1) := by decide +kernel
theorem dX8_split_1 : decode cX8_split 1 = .ok (.dup, 1) := by decide +kernel
theorem dX8_split_2 : decode cX8_split 2 = .ok (.getfield 145, 3) := by decide +kernel
theorem dX8_split_5 : decode cX8_split 5 = .ok (.iconst 1, 1) := by decide +kernel
theorem dX8_split_6 : decode cX8_split 6 = .ok (.iadd, 1) := by decide +kernel
theorem dX8_split_7 : decode cX8_split 7 = .ok (.putfield 145, 3) := by decide +kernel
theorem dX8_split_10 : decode cX8_split 10 = .ok (.aload_n 0, 1) := by decide +kernel
theorem dX8_split_11 : decode cX8_split 11 = .ok (.getfield 20, 3) := by decide +kernel
theorem dX8_split_14 : decode cX8_split 14 = .ok (.iload_n 1, 1) := by decide +kernel
theorem dX8_split_15 : decode cX8_split 15 = .ok (.iaload, 1) := by decide +kernel
theorem dX8_split_16 : decode cX8_split 16 = .ok (.iconst 1, 1) := by decide +kernel
theorem dX8_split_17 : decode cX8_split 17 = .ok (.isub, 1) := by decide +kernel
theorem dX8_split_18 : decode cX8_split 18 = .ok (.istore_n 2, 1) := by decide +kernel
theorem dX8_split_19 : decode cX8_split 19 = .ok (.aload_n 0, 1) := by decide +kernel
theorem dX8_split_20 : decode cX8_split 20 = .ok (.getfield 23, 3) := by decide +kernel
theorem dX8_split_23 : decode cX8_split 23 = .ok (.iload_n 1, 1) := by decide +kernel
theorem dX8_split_24 : decode cX8_split 24 = .ok (.iaload, 1) := by decide +kernel
theorem dX8_split_25 : decode cX8_split 25 = .ok (.istore_n 3, 1) := by decide +kernel
theorem dX8_split_26 : decode cX8_split 26 = .ok (.iconst 0, 1) := by decide +kernel
theorem dX8_split_27 : decode cX8_split 27 = .ok (.istore 4, 2) := by decide +kernel
theorem dX8_split_29 : decode cX8_split 29 = .ok (.iload 4, 2) := by decide +kernel
theorem dX8_split_31 : decode cX8_split 31 = .ok (.iload_n 3, 1) := by decide +kernel
theorem dX8_split_32 : decode cX8_split 32 = .ok (.if_icmp .ge 31, 3) := by decide +kernel
theorem dX8_split_35 : decode cX8_split 35 = .ok (.aload_n 0, 1) := by decide +kernel
theorem dX8_split_36 : decode cX8_split 36 = .ok (.getfield 53, 3) := by decide +kernel
theorem dX8_split_39 : decode cX8_split 39 = .ok (.iload 4, 2) := by decide +kernel
theorem dX8_split_41 : decode cX8_split 41 = .ok (.aload_n 0, 1) := by decide +kernel
theorem dX8_split_42 : decode cX8_split 42 = .ok (.iload_n 1, 1) := by decide +kernel
theorem dX8_split_43 : decode cX8_split 43 = .ok (.iload 4, 2) := by decide +kernel
theorem dX8_split_45 : decode cX8_split 45 = .ok (.invokevirtual 115, 3) := by decide +kernel
theorem dX8_split_48 : decode cX8_split 48 = .ok (.iastore, 1) := by decide +kernel
theorem dX8_split_49 : decode cX8_split 49 = .ok (.aload_n 0, 1) := by decide +kernel
theorem dX8_split_50 : decode cX8_split 50 = .ok (.getfield 56, 3) := by decide +kernel
theorem dX8_split_53 : decode cX8_split 53 = .ok (.iload 4, 2) := by decide +kernel
theorem dX8_split_55 : decode cX8_split 55 = .ok (.iconst 0, 1) := by decide +kernel
theorem dX8_split_56 : decode cX8_split 56 = .ok (.iastore, 1) := by decide +kernel
theorem dX8_split_57 : decode cX8_split 57 = .ok (.iinc 4 1, 3) := by decide +kernel
theorem dX8_split_60 : decode cX8_split 60 = .ok (.goto (-31), 3) := by decide +kernel
theorem dX8_split_63 : decode cX8_split 63 = .ok (.iconst 0, 1) := by decide +kernel
theorem dX8_split_64 : decode cX8_split 64 = .ok (.istore 4, 2) := by decide +kernel
theorem dX8_split_66 : decode cX8_split 66 = .ok (.iconst 1, 1) := by decide +kernel
theorem dX8_split_67 : decode cX8_split 67 = .ok (.istore 5, 2) := by decide +kernel
theorem dX8_split_69 : decode cX8_split 69 = .ok (.ldc2_w 150, 3) := by decide +kernel
theorem dX8_split_72 : decode cX8_split 72 = .ok (.lstore 6, 2) := by decide +kernel
theorem dX8_split_74 : decode cX8_split 74 = .ok (.iconst 0, 1) := by decide +kernel
theorem dX8_split_75 : decode cX8_split 75 = .ok (.istore 8, 2) := by decide +kernel
theorem dX8_split_77 : decode cX8_split 77 = .ok (.iload 8, 2) := by decide +kernel
theorem dX8_split_79 : decode cX8_split 79 = .ok (.iload_n 3, 1) := by decide +kernel
theorem dX8_split_80 : decode cX8_split 80 = .ok (.if_icmp .ge 95, 3) := by decide +kernel
theorem dX8_split_83 : decode cX8_split 83 = .ok (.iload 8, 2) := by decide +kernel
theorem dX8_split_85 : decode cX8_split 85 = .ok (.iconst 1, 1) := by decide +kernel
theorem dX8_split_86 : decode cX8_split 86 = .ok (.iadd, 1) := by decide +kernel
theorem dX8_split_87 : decode cX8_split 87 = .ok (.istore 9, 2) := by decide +kernel
theorem dX8_split_89 : decode cX8_split 89 = .ok (.iload 9, 2) := by decide +kernel
theorem dX8_split_91 : decode cX8_split 91 = .ok (.iload_n 3, 1) := by decide +kernel
theorem dX8_split_92 : decode cX8_split 92 = .ok (.if_icmp .ge 77, 3) := by decide +kernel
theorem dX8_split_95 : decode cX8_split 95 = .ok (.aload_n 0, 1) := by decide +kernel
theorem dX8_split_96 : decode cX8_split 96 = .ok (.iload_n 2, 1) := by decide +kernel
theorem dX8_split_97 : decode cX8_split 97 = .ok (.aload_n 0, 1) := by decide +kernel
theorem dX8_split_98 : decode cX8_split 98 = .ok (.getfield 53, 3) := by decide +kernel
theorem dX8_split_101 : decode cX8_split 101 = .ok (.iload 8, 2) := by decide +kernel
theorem dX8_split_103 : decode cX8_split 103 = .ok (.iaload, 1) := by decide +kernel
theorem dX8_split_104 : decode cX8_split 104 = .ok (.iload_n 2, 1) := by decide +kernel
theorem dX8_split_105 : decode cX8_split 105 = .ok (.aload_n 0, 1) := by decide +kernel
theorem dX8_split_106 : decode cX8_split 106 = .ok (.getfield 53, 3) := by decide +kernel
theorem dX8_split_109 : decode cX8_split 109 = .ok (.iload 9, 2) := by decide +kernel
theorem dX8_split_111 : decode cX8_split 111 = .ok (.iaload, 1) := by decide +kernel
theorem dX8_split_112 : decode cX8_split 112 = .ok (.invokevirtual 129, 3) := by decide +kernel
theorem dX8_split_115 : decode cX8_split 115 = .ok (.aload_n 0, 1) := by decide +kernel
theorem dX8_split_116 : decode cX8_split 116 = .ok (.iload_n 2, 1) := by decide +kernel
theorem dX8_split_117 : decode cX8_split 117 = .ok (.aload_n 0, 1) := by decide +kernel
theorem dX8_split_118 : decode cX8_split 118 = .ok (.getfield 53, 3) := by decide +kernel
theorem dX8_split_121 : decode cX8_split 121 = .ok (.iload 8, 2) := by decide +kernel
theorem dX8_split_123 : decode cX8_split 123 = .ok (.iaload, 1) := by decide +kernel
theorem dX8_split_124 : decode cX8_split 124 = .ok (.invokevirtual 125, 3) := by decide +kernel
theorem dX8_split_127 : decode cX8_split 127 = .ok (.lsub, 1) := by decide +kernel
theorem dX8_split_128 : decode cX8_split 128 = .ok (.aload_n 0, 1) := by decide +kernel
theorem dX8_split_129 : decode cX8_split 129 = .ok (.iload_n 2, 1) := by decide +kernel
theorem dX8_split_130 : decode cX8_split 130 = .ok (.aload_n 0, 1) := by decide +kernel
theorem dX8_split_131 : decode cX8_split 131 = .ok (.getfield 53, 3) := by decide +kernel
theorem dX8_split_134 : decode cX8_split 134 = .ok (.iload 9, 2) := by decide +kernel
theorem dX8_split_136 : decode cX8_split 136 = .ok (.iaload, 1) := by decide +kernel
theorem dX8_split_137 : decode cX8_split 137 = .ok (.invokevirtual 125, 3) := by decide +kernel
theorem dX8_split_140 : decode cX8_split 140 = .ok (.lsub, 1) := by decide +kernel
theorem dX8_split_141 : decode cX8_split 141 = .ok (.lstore 10, 2) := by decide +kernel
theorem dX8_split_143 : decode cX8_split 143 = .ok (.lload 10, 2) := by decide +kernel
theorem dX8_split_145 : decode cX8_split 145 = .ok (.lload 6, 2) := by decide +kernel
theorem dX8_split_147 : decode cX8_split 147 = .ok (.lcmp, 1) := by decide +kernel
theorem dX8_split_148 : decode cX8_split 148 = .ok (.ifCond .le 15, 3) := by decide +kernel
theorem dX8_split_151 : decode cX8_split 151 = .ok (.lload 10, 2) := by decide +kernel
theorem dX8_split_153 : decode cX8_split 153 = .ok (.lstore 6, 2) := by decide +kernel
theorem dX8_split_155 : decode cX8_split 155 = .ok (.iload 8, 2) := by decide +kernel
theorem dX8_split_157 : decode cX8_split 157 = .ok (.istore 4, 2) := by decide +kernel
theorem dX8_split_159 : decode cX8_split 159 = .ok (.iload 9, 2) := by decide +kernel
theorem dX8_split_161 : decode cX8_split 161 = .ok (.istore 5, 2) := by decide +kernel
theorem dX8_split_163 : decode cX8_split 163 = .ok (.iinc 9 1, 3) := by decide +kernel
theorem dX8_split_166 : decode cX8_split 166 = .ok (.goto (-77), 3) := by decide +kernel
theorem dX8_split_169 : decode cX8_split 169 = .ok (.iinc 8 1, 3) := by decide +kernel
theorem dX8_split_172 : decode cX8_split 172 = .ok (.goto (-95), 3) := by decide +kernel
theorem dX8_split_175 : decode cX8_split 175 = .ok (.aload_n 0, 1) := by decide +kernel
theorem dX8_split_176 : decode cX8_split 176 = .ok (.getfield 65, 3) := by decide +kernel
theorem dX8_split_179 : decode cX8_split 179 = .ok (.iconst 0, 1) := by decide +kernel
theorem dX8_split_180 : decode cX8_split 180 = .ok (.iconst 0, 1) := by decide +kernel
theorem dX8_split_181 : decode cX8_split 181 = .ok (.iastore, 1) := by decide +kernel
theorem dX8_split_182 : decode cX8_split 182 = .ok (.aload_n 0, 1) := by decide +kernel
theorem dX8_split_183 : decode cX8_split 183 = .ok (.getfield 65, 3) := by decide +kernel
theorem dX8_split_186 : decode cX8_split 186 = .ok (.iconst 1, 1) := by decide +kernel
theorem dX8_split_187 : decode cX8_split 187 = .ok (.iconst 0, 1) := by decide +kernel
theorem dX8_split_188 : decode cX8_split 188 = .ok (.iastore, 1) := by decide +kernel
theorem dX8_split_189 : decode cX8_split 189 = .ok (.iconst 0, 1) := by decide +kernel
theorem dX8_split_190 : decode cX8_split 190 = .ok (.istore 8, 2) := by decide +kernel
theorem dX8_split_192 : decode cX8_split 192 = .ok (.aload_n 0, 1) := by decide +kernel
theorem dX8_split_193 : decode cX8_split 193 = .ok (.iload 4, 2) := by decide +kernel
theorem dX8_split_195 : decode cX8_split 195 = .ok (.iconst 1, 1) := by decide +kernel
theorem dX8_split_196 : decode cX8_split 196 = .ok (.iload_n 2, 1) := by decide +kernel
theorem dX8_split_197 : decode cX8_split 197 = .ok (.iload 8, 2) := by decide +kernel
theorem dX8_split_199 : decode cX8_split 199 = .ok (.invokevirtual 152, 3) := by decide +kernel
theorem dX8_split_202 : decode cX8_split 202 = .ok (.istore 8, 2) := by decide +kernel
theorem dX8_split_204 : decode cX8_split 204 = .ok (.aload_n 0, 1) := by decide +kernel
theorem dX8_split_205 : decode cX8_split 205 = .ok (.iload 5, 2) := by decide +kernel
theorem dX8_split_207 : decode cX8_split 207 = .ok (.iconst 2, 1) := by decide +kernel
theorem dX8_split_208 : decode cX8_split 208 = .ok (.iload_n 2, 1) := by decide +kernel
theorem dX8_split_209 : decode cX8_split 209 = .ok (.iload 8, 2) := by decide +kernel
theorem dX8_split_211 : decode cX8_split 211 = .ok (.invokevirtual 152, 3) := by decide +kernel
theorem dX8_split_214 : decode cX8_split 214 = .ok (.istore 8, 2) := by decide +kernel
theorem dX8_split_216 : decode cX8_split 216 = .ok (.iload 8, 2) := by decide +kernel
theorem dX8_split_218 : decode cX8_split 218 = .ok (.iload_n 3, 1) := by decide +kernel
theorem dX8_split_219 : decode cX8_split 219 = .ok (.if_icmp .ge 123, 3) := by decide +kernel
theorem dX8_split_222 : decode cX8_split 222 = .ok (.aload_n 0, 1) := by decide +kernel
theorem dX8_split_223 : decode cX8_split 223 = .ok (.getfield 65, 3) := by decide +kernel
theorem dX8_split_226 : decode cX8_split 226 = .ok (.iconst 0, 1) := by decide +kernel
theorem dX8_split_227 : decode cX8_split 227 = .ok (.iaload, 1) := by decide +kernel
theorem dX8_split_228 : decode cX8_split 228 = .ok (.iload_n 3, 1) := by decide +kernel
theorem dX8_split_229 : decode cX8_split 229 = .ok (.iadd, 1) := by decide +kernel
theorem dX8_split_230 : decode cX8_split 230 = .ok (.iload 8, 2) := by decide +kernel
theorem dX8_split_232 : decode cX8_split 232 = .ok (.isub, 1) := by decide +kernel
theorem dX8_split_233 : decode cX8_split 233 = .ok (.aload_n 0, 1) := by decide +kernel
theorem dX8_split_234 : decode cX8_split 234 = .ok (.getfield 86, 3) := by decide +kernel
theorem dX8_split_237 : decode cX8_split 237 = .ok (.if_icmp .eq 21, 3) := by decide +kernel
theorem dX8_split_240 : decode cX8_split 240 = .ok (.aload_n 0, 1) := by decide +kernel
theorem dX8_split_241 : decode cX8_split 241 = .ok (.getfield 65, 3) := by decide +kernel
theorem dX8_split_244 : decode cX8_split 244 = .ok (.iconst 1, 1) := by decide +kernel
theorem dX8_split_245 : decode cX8_split 245 = .ok (.iaload, 1) := by decide +kernel
theorem dX8_split_246 : decode cX8_split 246 = .ok (.iload_n 3, 1) := by decide +kernel
theorem dX8_split_247 : decode cX8_split 247 = .ok (.iadd, 1) := by decide +kernel
theorem dX8_split_248 : decode cX8_split 248 = .ok (.iload 8, 2) := by decide +kernel
theorem dX8_split_250 : decode cX8_split 250 = .ok (.isub, 1) := by decide +kernel
theorem dX8_split_251 : decode cX8_split 251 = .ok (.aload_n 0, 1) := by decide +kernel
theorem dX8_split_252 : decode cX8_split 252 = .ok (.getfield 86, 3) := by decide +kernel
theorem dX8_split_255 : decode cX8_split 255 = .ok (.if_icmp .ne 74, 3) := by decide +kernel
theorem dX8_split_258 : decode cX8_split 258 = .ok (.aload_n 0, 1) := by decide +kernel
theorem dX8_split_259 : decode cX8_split 259 = .ok (.getfield 65, 3) := by decide +kernel
theorem dX8_split_262 : decode cX8_split 262 = .ok (.iconst 0, 1) := by decide +kernel
theorem dX8_split_263 : decode cX8_split 263 = .ok (.iaload, 1) := by decide +kernel
theorem dX8_split_264 : decode cX8_split 264 = .ok (.iload_n 3, 1) := by decide +kernel
theorem dX8_split_265 : decode cX8_split 265 = .ok (.iadd, 1) := by decide +kernel
theorem dX8_split_266 : decode cX8_split 266 = .ok (.iload 8, 2) := by decide +kernel
theorem dX8_split_268 : decode cX8_split 268 = .ok (.isub, 1) := by decide +kernel
theorem dX8_split_269 : decode cX8_split 269 = .ok (.aload_n 0, 1) := by decide +kernel
theorem dX8_split_270 : decode cX8_split 270 = .ok (.getfield 86, 3) := by decide +kernel
theorem dX8_split_273 : decode cX8_split 273 = .ok (.if_icmp .ne 7, 3) := by decide +kernel
theorem dX8_split_276 : decode cX8_split 276 = .ok (.iconst 1, 1) := by decide +kernel
theorem dX8_split_277 : decode cX8_split 277 = .ok (.goto 4, 3) := by decide +kernel
theorem dX8_split_280 : decode cX8_split 280 = .ok (.iconst 2, 1) := by decide +kernel
theorem dX8_split_281 : decode cX8_split 281 = .ok (.istore 9, 2) := by decide +kernel
theorem dX8_split_283 : decode cX8_split 283 = .ok (.iconst 0, 1) := by decide +kernel
theorem dX8_split_284 : decode cX8_split 284 = .ok (.istore 10, 2) := by decide +kernel
theorem dX8_split_286 : decode cX8_split 286 = .ok (.iload 10, 2) := by decide +kernel
theorem dX8_split_288 : decode cX8_split 288 = .ok (.iload_n 3, 1) := by decide +kernel
theorem dX8_split_289 : decode cX8_split 289 = .ok (.if_icmp .ge 37, 3) := by decide +kernel
theorem dX8_split_292 : decode cX8_split 292 = .ok (.aload_n 0, 1) := by decide +kernel
theorem dX8_split_293 : decode cX8_split 293 = .ok (.getfield 56, 3) := by decide +kernel
theorem dX8_split_296 : decode cX8_split 296 = .ok (.iload 10, 2) := by decide +kernel
theorem dX8_split_298 : decode cX8_split 298 = .ok (.iaload, 1) := by decide +kernel
theorem dX8_split_299 : decode cX8_split 299 = .ok (.ifCond .ne 17, 3) := by decide +kernel
theorem dX8_split_302 : decode cX8_split 302 = .ok (.aload_n 0, 1) := by decide +kernel
theorem dX8_split_303 : decode cX8_split 303 = .ok (.iload 10, 2) := by decide +kernel
theorem dX8_split_305 : decode cX8_split 305 = .ok (.iload 9, 2) := by decide +kernel
theorem dX8_split_307 : decode cX8_split 307 = .ok (.iload_n 2, 1) := by decide +kernel
theorem dX8_split_308 : decode cX8_split 308 = .ok (.iload 8, 2) := by decide +kernel
theorem dX8_split_310 : decode cX8_split 310 = .ok (.invokevirtual 152, 3) := by decide +kernel
theorem dX8_split_313 : decode cX8_split 313 = .ok (.goto 5, 3) := by decide +kernel
theorem dX8_split_316 : decode cX8_split 316 = .ok (.iload 8, 2) := by decide +kernel
theorem dX8_split_318 : decode cX8_split 318 = .ok (.istore 8, 2) := by decide +kernel
theorem dX8_split_320 : decode cX8_split 320 = .ok (.iinc 10 1, 3) := by decide +kernel
theorem dX8_split_323 : decode cX8_split 323 = .ok (.goto (-37), 3) := by decide +kernel
theorem dX8_split_326 : decode cX8_split 326 = .ok (.goto (-110), 3) := by decide +kernel
theorem dX8_split_329 : decode cX8_split 329 = .ok (.aload_n 0, 1) := by decide +kernel
theorem dX8_split_330 : decode cX8_split 330 = .ok (.iload_n 3, 1) := by decide +kernel
theorem dX8_split_331 : decode cX8_split 331 = .ok (.iload_n 2, 1) := by decide +kernel
theorem dX8_split_332 : decode cX8_split 332 = .ok (.iload 8, 2) := by decide +kernel
theorem dX8_split_334 : decode cX8_split 334 = .ok (.invokevirtual 156, 3) := by decide +kernel
theorem dX8_split_337 : decode cX8_split 337 = .ok (.istore 8, 2) := by decide +kernel
theorem dX8_split_339 : decode cX8_split 339 = .ok (.goto (-123), 3) := by decide +kernel
theorem dX8_split_342 : decode cX8_split 342 = .ok (.aload_n 0, 1) := by decide +kernel
theorem dX8_split_343 : decode cX8_split 343 = .ok (.aload_n 0, 1) := by decide +kernel
theorem dX8_split_344 : decode cX8_split 344 = .ok (.getfield 20, 3) := by decide +kernel
theorem dX8_split_347 : decode cX8_split 347 = .ok (.iload_n 1, 1) := by decide +kernel
theorem dX8_split_348 : decode cX8_split 348 = .ok (.iaload, 1) := by decide +kernel
theorem dX8_split_349 : decode cX8_split 349 = .ok (.invokevirtual 89, 3) := by decide +kernel
theorem dX8_split_352 : decode cX8_split 352 = .ok (.istore 9, 2) := by decide +kernel
theorem dX8_split_354 : decode cX8_split 354 = .ok (.aload_n 0, 1) := by decide +kernel
theorem dX8_split_355 : decode cX8_split 355 = .ok (.getfield 23, 3) := by decide +kernel
theorem dX8_split_358 : decode cX8_split 358 = .ok (.iload_n 1, 1) := by decide +kernel
theorem dX8_split_359 : decode cX8_split 359 = .ok (.iconst 0, 1) := by decide +kernel
theorem dX8_split_360 : decode cX8_split 360 = .ok (.iastore, 1) := by decide +kernel
theorem dX8_split_361 : decode cX8_split 361 = .ok (.iconst 0, 1) := by decide +kernel
theorem dX8_split_362 : decode cX8_split 362 = .ok (.istore 10, 2) := by decide +kernel
theorem dX8_split_364 : decode cX8_split 364 = .ok (.iload 10, 2) := by decide +kernel
theorem dX8_split_366 : decode cX8_split 366 = .ok (.iload_n 3, 1) := by decide +kernel
theorem dX8_split_367 : decode cX8_split 367 = .ok (.if_icmp .ge 47, 3) := by decide +kernel
theorem dX8_split_370 : decode cX8_split 370 = .ok (.aload_n 0, 1) := by decide +kernel
theorem dX8_split_371 : decode cX8_split 371 = .ok (.aload_n 0, 1) := by decide +kernel
theorem dX8_split_372 : decode cX8_split 372 = .ok (.getfield 56, 3) := by decide +kernel
theorem dX8_split_375 : decode cX8_split 375 = .ok (.aload_n 0, 1) := by decide +kernel
theorem dX8_split_376 : decode cX8_split 376 = .ok (.getfield 59, 3) := by decide +kernel
theorem dX8_split_379 : decode cX8_split 379 = .ok (.iload 10, 2) := by decide +kernel
theorem dX8_split_381 : decode cX8_split 381 = .ok (.iaload, 1) := by decide +kernel
theorem dX8_split_382 : decode cX8_split 382 = .ok (.iaload, 1) := by decide +kernel
theorem dX8_split_383 : decode cX8_split 383 = .ok (.iconst 1, 1) := by decide +kernel
end
section
theorem dX8_split_384 : decode cX8_split 384 = .ok (.if_icmp .ne 7, 3) := by decide +kernel
theorem dX8_split_387 : decode cX8_split 387 = .ok (.iload_n 1, 1) := by decide +kernel
theorem dX8_split_388 : decode cX8_split 388 = .ok (.goto 5, 3) := by decide +kernel
theorem dX8_split_391 : decode cX8_split 391 = .ok (.iload 9, 2) := by decide +kernel
theorem dX8_split_393 : decode cX8_split 393 = .ok (.aload_n 0, 1) := by decide +kernel
theorem dX8_split_394 : decode cX8_split 394 = .ok (.getfield 53, 3) := by decide +kernel
theorem dX8_split_397 : decode cX8_split 397 = .ok (.aload_n 0, 1) := by decide +kernel
theorem dX8_split_398 : decode cX8_split 398 = .ok (.getfield 59, 3) := by decide +kernel
theorem dX8_split_401 : decode cX8_split 401 = .ok (.iload 10, 2) := by decide +kernel
theorem dX8_split_403 : decode cX8_split 403 = .ok (.iaload, 1) := by decide +kernel
theorem dX8_split_404 : decode cX8_split 404 = .ok (.iaload, 1) := by decide +kernel
theorem dX8_split_405 : decode cX8_split 405 = .ok (.invokevirtual 135, 3) := by decide +kernel
theorem dX8_split_408 : decode cX8_split 408 = .ok (.iinc 10 1, 3) := by decide +kernel
theorem dX8_split_411 : decode cX8_split 411 = .ok (.goto (-47), 3) := by decide +kernel
theorem dX8_split_414 : decode cX8_split 414 = .ok (.aload_n 0, 1) := by decide +kernel
theorem dX8_split_415 : decode cX8_split 415 = .ok (.iload_n 1, 1) := by decide +kernel
theorem dX8_split_416 : decode cX8_split 416 = .ok (.invokevirtual 118, 3) := by decide +kernel
theorem dX8_split_419 : decode cX8_split 419 = .ok (.aload_n 0, 1) := by decide +kernel
theorem dX8_split_420 : decode cX8_split 420 = .ok (.iload 9, 2) := by decide +kernel
theorem dX8_split_422 : decode cX8_split 422 = .ok (.invokevirtual 118, 3) := by decide +kernel
theorem dX8_split_425 : decode cX8_split 425 = .ok (.iload_n 1, 1) := by decide +kernel
theorem dX8_split_426 : decode cX8_split 426 = .ok (.aload_n 0, 1) := by decide +kernel
theorem dX8_split_427 : decode cX8_split 427 = .ok (.getfield 93, 3) := by decide +kernel
theorem dX8_split_430 : decode cX8_split 430 = .ok (.if_icmp .ne 47, 3) := by decide +kernel
theorem dX8_split_433 : decode cX8_split 433 = .ok (.aload_n 0, 1) := by decide +kernel
theorem dX8_split_434 : decode cX8_split 434 = .ok (.aload_n 0, 1) := by decide +kernel
theorem dX8_split_435 : decode cX8_split 435 = .ok (.aload_n 0, 1) := by decide +kernel
theorem dX8_split_436 : decode cX8_split 436 = .ok (.getfield 20, 3) := by decide +kernel
theorem dX8_split_439 : decode cX8_split 439 = .ok (.iload_n 1, 1) := by decide +kernel
theorem dX8_split_440 : decode cX8_split 440 = .ok (.iaload, 1) := by decide +kernel
theorem dX8_split_441 : decode cX8_split 441 = .ok (.iconst 1, 1) := by decide +kernel
theorem dX8_split_442 : decode cX8_split 442 = .ok (.iadd, 1) := by decide +kernel
theorem dX8_split_443 : decode cX8_split 443 = .ok (.invokevirtual 89, 3) := by decide +kernel
theorem dX8_split_446 : decode cX8_split 446 = .ok (.putfield 93, 3) := by decide +kernel
theorem dX8_split_449 : decode cX8_split 449 = .ok (.aload_n 0, 1) := by decide +kernel
theorem dX8_split_450 : decode cX8_split 450 = .ok (.aload_n 0, 1) := by decide +kernel
theorem dX8_split_451 : decode cX8_split 451 = .ok (.getfield 93, 3) := by decide +kernel
theorem dX8_split_454 : decode cX8_split 454 = .ok (.iload_n 1, 1) := by decide +kernel
theorem dX8_split_455 : decode cX8_split 455 = .ok (.invokevirtual 135, 3) := by decide +kernel
theorem dX8_split_458 : decode cX8_split 458 = .ok (.aload_n 0, 1) := by decide +kernel
theorem dX8_split_459 : decode cX8_split 459 = .ok (.aload_n 0, 1) := by decide +kernel
theorem dX8_split_460 : decode cX8_split 460 = .ok (.getfield 93, 3) := by decide +kernel
theorem dX8_split_463 : decode cX8_split 463 = .ok (.iload 9, 2) := by decide +kernel
theorem dX8_split_465 : decode cX8_split 465 = .ok (.invokevirtual 135, 3) := by decide +kernel
theorem dX8_split_468 : decode cX8_split 468 = .ok (.aload_n 0, 1) := by decide +kernel
theorem dX8_split_469 : decode cX8_split 469 = .ok (.aload_n 0, 1) := by decide +kernel
theorem dX8_split_470 : decode cX8_split 470 = .ok (.getfield 93, 3) := by decide +kernel
theorem dX8_split_473 : decode cX8_split 473 = .ok (.invokevirtual 118, 3) := by decide +kernel
theorem dX8_split_476 : decode cX8_split 476 = .ok (.return_, 1) := by decide +kernel
theorem dX8_split_477 : decode cX8_split 477 = .ok (.aload_n 0, 1) := by decide +kernel
theorem dX8_split_478 : decode cX8_split 478 = .ok (.getfield 32, 3) := by decide +kernel
theorem dX8_split_481 : decode cX8_split 481 = .ok (.iload_n 1, 1) := by decide +kernel
theorem dX8_split_482 : decode cX8_split 482 = .ok (.iaload, 1) := by decide +kernel
theorem dX8_split_483 : decode cX8_split 483 = .ok (.istore 10, 2) := by decide +kernel
theorem dX8_split_485 : decode cX8_split 485 = .ok (.aload_n 0, 1) := by decide +kernel
theorem dX8_split_486 : decode cX8_split 486 = .ok (.iload 10, 2) := by decide +kernel
theorem dX8_split_488 : decode cX8_split 488 = .ok (.iload_n 1, 1) := by decide +kernel
theorem dX8_split_489 : decode cX8_split 489 = .ok (.invokevirtual 122, 3) := by decide +kernel
theorem dX8_split_492 : decode cX8_split 492 = .ok (.iconst 1, 1) := by decide +kernel
theorem dX8_split_493 : decode cX8_split 493 = .ok (.iadd, 1) := by decide +kernel
theorem dX8_split_494 : decode cX8_split 494 = .ok (.istore 11, 2) := by decide +kernel
theorem dX8_split_496 : decode cX8_split 496 = .ok (.aload_n 0, 1) := by decide +kernel
theorem dX8_split_497 : decode cX8_split 497 = .ok (.getfield 23, 3) := by decide +kernel
theorem dX8_split_500 : decode cX8_split 500 = .ok (.iload 10, 2) := by decide +kernel
theorem dX8_split_502 : decode cX8_split 502 = .ok (.iaload, 1) := by decide +kernel
theorem dX8_split_503 : decode cX8_split 503 = .ok (.istore 12, 2) := by decide +kernel
theorem dX8_split_505 : decode cX8_split 505 = .ok (.iload 12, 2) := by decide +kernel
theorem dX8_split_507 : decode cX8_split 507 = .ok (.iload 11, 2) := by decide +kernel
theorem dX8_split_509 : decode cX8_split 509 = .ok (.if_icmp .le 37, 3) := by decide +kernel
theorem dX8_split_512 : decode cX8_split 512 = .ok (.aload_n 0, 1) := by decide +kernel
theorem dX8_split_513 : decode cX8_split 513 = .ok (.getfield 26, 3) := by decide +kernel
theorem dX8_split_516 : decode cX8_split 516 = .ok (.bipush 11, 2) := by decide +kernel
theorem dX8_split_518 : decode cX8_split 518 = .ok (.iload 10, 2) := by decide +kernel
theorem dX8_split_520 : decode cX8_split 520 = .ok (.imul, 1) := by decide +kernel
theorem dX8_split_521 : decode cX8_split 521 = .ok (.iload 12, 2) := by decide +kernel
theorem dX8_split_523 : decode cX8_split 523 = .ok (.iadd, 1) := by decide +kernel
theorem dX8_split_524 : decode cX8_split 524 = .ok (.aload_n 0, 1) := by decide +kernel
theorem dX8_split_525 : decode cX8_split 525 = .ok (.getfield 26, 3) := by decide +kernel
theorem dX8_split_528 : decode cX8_split 528 = .ok (.bipush 11, 2) := by decide +kernel
theorem dX8_split_530 : decode cX8_split 530 = .ok (.iload 10, 2) := by decide +kernel
theorem dX8_split_532 : decode cX8_split 532 = .ok (.imul, 1) := by decide +kernel
theorem dX8_split_533 : decode cX8_split 533 = .ok (.iload 12, 2) := by decide +kernel
theorem dX8_split_535 : decode cX8_split 535 = .ok (.iadd, 1) := by decide +kernel
theorem dX8_split_536 : decode cX8_split 536 = .ok (.iconst 1, 1) := by decide +kernel
theorem dX8_split_537 : decode cX8_split 537 = .ok (.isub, 1) := by decide +kernel
theorem dX8_split_538 : decode cX8_split 538 = .ok (.iaload, 1) := by decide +kernel
theorem dX8_split_539 : decode cX8_split 539 = .ok (.iastore, 1) := by decide +kernel
theorem dX8_split_540 : decode cX8_split 540 = .ok (.iinc 12 (-1), 3) := by decide +kernel
theorem dX8_split_543 : decode cX8_split 543 = .ok (.goto (-38), 3) := by decide +kernel
theorem dX8_split_546 : decode cX8_split 546 = .ok (.aload_n 0, 1) := by decide +kernel
theorem dX8_split_547 : decode cX8_split 547 = .ok (.getfield 26, 3) := by decide +kernel
theorem dX8_split_550 : decode cX8_split 550 = .ok (.bipush 11, 2) := by decide +kernel
theorem dX8_split_552 : decode cX8_split 552 = .ok (.iload 10, 2) := by decide +kernel
theorem dX8_split_554 : decode cX8_split 554 = .ok (.imul, 1) := by decide +kernel
theorem dX8_split_555 : decode cX8_split 555 = .ok (.iload 11, 2) := by decide +kernel
theorem dX8_split_557 : decode cX8_split 557 = .ok (.iadd, 1) := by decide +kernel
theorem dX8_split_558 : decode cX8_split 558 = .ok (.iload 9, 2) := by decide +kernel
theorem dX8_split_560 : decode cX8_split 560 = .ok (.iastore, 1) := by decide +kernel
theorem dX8_split_561 : decode cX8_split 561 = .ok (.aload_n 0, 1) := by decide +kernel
theorem dX8_split_562 : decode cX8_split 562 = .ok (.getfield 23, 3) := by decide +kernel
theorem dX8_split_565 : decode cX8_split 565 = .ok (.iload 10, 2) := by decide +kernel
theorem dX8_split_567 : decode cX8_split 567 = .ok (.dup2, 1) := by decide +kernel
theorem dX8_split_568 : decode cX8_split 568 = .ok (.iaload, 1) := by decide +kernel
theorem dX8_split_569 : decode cX8_split 569 = .ok (.iconst 1, 1) := by decide +kernel
theorem dX8_split_570 : decode cX8_split 570 = .ok (.iadd, 1) := by decide +kernel
theorem dX8_split_571 : decode cX8_split 571 = .ok (.iastore, 1) := by decide +kernel
theorem dX8_split_572 : decode cX8_split 572 = .ok (.aload_n 0, 1) := by decide +kernel
theorem dX8_split_573 : decode cX8_split 573 = .ok (.getfield 32, 3) := by decide +kernel
theorem dX8_split_576 : decode cX8_split 576 = .ok (.iload 9, 2) := by decide +kernel
theorem dX8_split_578 : decode cX8_split 578 = .ok (.iload 10, 2) := by decide +kernel
theorem dX8_split_580 : decode cX8_split 580 = .ok (.iastore, 1) := by decide +kernel
theorem dX8_split_581 : decode cX8_split 581 = .ok (.aload_n 0, 1) := by decide +kernel
theorem dX8_split_582 : decode cX8_split 582 = .ok (.iload 10, 2) := by decide +kernel
theorem dX8_split_584 : decode cX8_split 584 = .ok (.invokevirtual 139, 3) := by decide +kernel
theorem dX8_split_587 : decode cX8_split 587 = .ok (.return_, 1) := by decide +kernel
theorem dX8_come_0 : decode cX8_come 0 = .ok (.aload_n 0, 1) := by decide +kernel
theorem dX8_come_1 : decode cX8_come 1 = .ok (.getfield 56, 3) := by decide +kernel
theorem dX8_come_4 : decode cX8_come 4 = .ok (.iload_n 1, 1) := by decide +kernel
theorem dX8_come_5 : decode cX8_come 5 = .ok (.iload_n 2, 1) := by decide +kernel
theorem dX8_come_6 : decode cX8_come 6 = .ok (.iastore, 1) := by decide +kernel
theorem dX8_come_7 : decode cX8_come 7 = .ok (.aload_n 0, 1) := by decide +kernel
theorem dX8_come_8 : decode cX8_come 8 = .ok (.getfield 59, 3) := by decide +kernel
theorem dX8_come_11 : decode cX8_come 11 = .ok (.iload 4, 2) := by decide +kernel
theorem dX8_come_13 : decode cX8_come 13 = .ok (.iload_n 1, 1) := by decide +kernel
theorem dX8_come_14 : decode cX8_come 14 = .ok (.iastore, 1) := by decide +kernel
theorem dX8_come_15 : decode cX8_come 15 = .ok (.iconst 0, 1) := by decide +kernel
theorem dX8_come_16 : decode cX8_come 16 = .ok (.istore 5, 2) := by decide +kernel
theorem dX8_come_18 : decode cX8_come 18 = .ok (.iload 5, 2) := by decide +kernel
theorem dX8_come_20 : decode cX8_come 20 = .ok (.iconst 4, 1) := by decide +kernel
theorem dX8_come_21 : decode cX8_come 21 = .ok (.if_icmp .ge 90, 3) := by decide +kernel
theorem dX8_come_24 : decode cX8_come 24 = .ok (.aload_n 0, 1) := by decide +kernel
theorem dX8_come_25 : decode cX8_come 25 = .ok (.iload_n 3, 1) := by decide +kernel
theorem dX8_come_26 : decode cX8_come 26 = .ok (.aload_n 0, 1) := by decide +kernel
theorem dX8_come_27 : decode cX8_come 27 = .ok (.getfield 53, 3) := by decide +kernel
theorem dX8_come_30 : decode cX8_come 30 = .ok (.iload_n 1, 1) := by decide +kernel
theorem dX8_come_31 : decode cX8_come 31 = .ok (.iaload, 1) := by decide +kernel
theorem dX8_come_32 : decode cX8_come 32 = .ok (.iload 5, 2) := by decide +kernel
theorem dX8_come_34 : decode cX8_come 34 = .ok (.invokevirtual 96, 3) := by decide +kernel
theorem dX8_come_37 : decode cX8_come 37 = .ok (.istore 6, 2) := by decide +kernel
theorem dX8_come_39 : decode cX8_come 39 = .ok (.iconst 4, 1) := by decide +kernel
theorem dX8_come_40 : decode cX8_come 40 = .ok (.iload_n 2, 1) := by decide +kernel
theorem dX8_come_41 : decode cX8_come 41 = .ok (.iconst 1, 1) := by decide +kernel
theorem dX8_come_42 : decode cX8_come 42 = .ok (.isub, 1) := by decide +kernel
theorem dX8_come_43 : decode cX8_come 43 = .ok (.imul, 1) := by decide +kernel
theorem dX8_come_44 : decode cX8_come 44 = .ok (.iload 5, 2) := by decide +kernel
theorem dX8_come_46 : decode cX8_come 46 = .ok (.iadd, 1) := by decide +kernel
theorem dX8_come_47 : decode cX8_come 47 = .ok (.istore 7, 2) := by decide +kernel
theorem dX8_come_49 : decode cX8_come 49 = .ok (.aload_n 0, 1) := by decide +kernel
theorem dX8_come_50 : decode cX8_come 50 = .ok (.getfield 62, 3) := by decide +kernel
theorem dX8_come_53 : decode cX8_come 53 = .ok (.iload 7, 2) := by decide +kernel
theorem dX8_come_55 : decode cX8_come 55 = .ok (.aload_n 0, 1) := by decide +kernel
theorem dX8_come_56 : decode cX8_come 56 = .ok (.getfield 65, 3) := by decide +kernel
theorem dX8_come_59 : decode cX8_come 59 = .ok (.iload_n 2, 1) := by decide +kernel
theorem dX8_come_60 : decode cX8_come 60 = .ok (.iconst 1, 1) := by decide +kernel
theorem dX8_come_61 : decode cX8_come 61 = .ok (.isub, 1) := by decide +kernel
theorem dX8_come_62 : decode cX8_come 62 = .ok (.iaload, 1) := by decide +kernel
theorem dX8_come_63 : decode cX8_come 63 = .ok (.ifCond .ne 8, 3) := by decide +kernel
theorem dX8_come_66 : decode cX8_come 66 = .ok (.iload 6, 2) := by decide +kernel
theorem dX8_come_68 : decode cX8_come 68 = .ok (.goto 36, 3) := by decide +kernel
theorem dX8_come_71 : decode cX8_come 71 = .ok (.iload 5, 2) := by decide +kernel
theorem dX8_come_73 : decode cX8_come 73 = .ok (.iconst 2, 1) := by decide +kernel
theorem dX8_come_74 : decode cX8_come 74 = .ok (.if_icmp .ge 18, 3) := by decide +kernel
theorem dX8_come_77 : decode cX8_come 77 = .ok (.aload_n 0, 1) := by decide +kernel
theorem dX8_come_78 : decode cX8_come 78 = .ok (.getfield 62, 3) := by decide +kernel
theorem dX8_come_81 : decode cX8_come 81 = .ok (.iload 7, 2) := by decide +kernel
theorem dX8_come_83 : decode cX8_come 83 = .ok (.iaload, 1) := by decide +kernel
theorem dX8_come_84 : decode cX8_come 84 = .ok (.iload 6, 2) := by decide +kernel
theorem dX8_come_86 : decode cX8_come 86 = .ok (.invokestatic 104, 3) := by decide +kernel
theorem dX8_come_89 : decode cX8_come 89 = .ok (.goto 15, 3) := by decide +kernel
theorem dX8_come_92 : decode cX8_come 92 = .ok (.aload_n 0, 1) := by decide +kernel
theorem dX8_come_93 : decode cX8_come 93 = .ok (.getfield 62, 3) := by decide +kernel
theorem dX8_come_96 : decode cX8_come 96 = .ok (.iload 7, 2) := by decide +kernel
theorem dX8_come_98 : decode cX8_come 98 = .ok (.iaload, 1) := by decide +kernel
theorem dX8_come_99 : decode cX8_come 99 = .ok (.iload 6, 2) := by decide +kernel
theorem dX8_come_101 : decode cX8_come 101 = .ok (.invokestatic 108, 3) := by decide +kernel
theorem dX8_come_104 : decode cX8_come 104 = .ok (.iastore, 1) := by decide +kernel
theorem dX8_come_105 : decode cX8_come 105 = .ok (.iinc 5 1, 3) := by decide +kernel
theorem dX8_come_108 : decode cX8_come 108 = .ok (.goto (-90), 3) := by decide +kernel
theorem dX8_come_111 : decode cX8_come 111 = .ok (.aload_n 0, 1) := by decide +kernel
theorem dX8_come_112 : decode cX8_come 112 = .ok (.getfield 65, 3) := by decide +kernel
theorem dX8_come_115 : decode cX8_come 115 = .ok (.iload_n 2, 1) := by decide +kernel
theorem dX8_come_116 : decode cX8_come 116 = .ok (.iconst 1, 1) := by decide +kernel
theorem dX8_come_117 : decode cX8_come 117 = .ok (.isub, 1) := by decide +kernel
theorem dX8_come_118 : decode cX8_come 118 = .ok (.dup2, 1) := by decide +kernel
theorem dX8_come_119 : decode cX8_come 119 = .ok (.iaload, 1) := by decide +kernel
theorem dX8_come_120 : decode cX8_come 120 = .ok (.iconst 1, 1) := by decide +kernel
theorem dX8_come_121 : decode cX8_come 121 = .ok (.iadd, 1) := by decide +kernel
theorem dX8_come_122 : decode cX8_come 122 = .ok (.iastore, 1) := by decide +kernel
theorem dX8_come_123 : decode cX8_come 123 = .ok (.iload 4, 2) := by decide +kernel
theorem dX8_come_125 : decode cX8_come 125 = .ok (.iconst 1, 1) := by decide +kernel
theorem dX8_come_126 : decode cX8_come 126 = .ok (.iadd, 1) := by decide +kernel
theorem dX8_come_127 : decode cX8_come 127 = .ok (.ireturn, 1) := by decide +kernel
theorem dX8_partArea_0 : decode cX8_partArea 0 = .ok (.iconst 4, 1) := by decide +kernel
theorem dX8_partArea_1 : decode cX8_partArea 1 = .ok (.iload_n 1, 1) := by decide +kernel
theorem dX8_partArea_2 : decode cX8_partArea 2 = .ok (.iconst 1, 1) := by decide +kernel
theorem dX8_partArea_3 : decode cX8_partArea 3 = .ok (.isub, 1) := by decide +kernel
theorem dX8_partArea_4 : decode cX8_partArea 4 = .ok (.imul, 1) := by decide +kernel
theorem dX8_partArea_5 : decode cX8_partArea 5 = .ok (.istore_n 2, 1) := by decide +kernel
theorem dX8_partArea_6 : decode cX8_partArea 6 = .ok (.aload_n 0, 1) := by decide +kernel
theorem dX8_partArea_7 : decode cX8_partArea 7 = .ok (.getfield 62, 3) := by decide +kernel
theorem dX8_partArea_10 : decode cX8_partArea 10 = .ok (.iload_n 2, 1) := by decide +kernel
theorem dX8_partArea_11 : decode cX8_partArea 11 = .ok (.iaload, 1) := by decide +kernel
theorem dX8_partArea_12 : decode cX8_partArea 12 = .ok (.aload_n 0, 1) := by decide +kernel
theorem dX8_partArea_13 : decode cX8_partArea 13 = .ok (.getfield 62, 3) := by decide +kernel
theorem dX8_partArea_16 : decode cX8_partArea 16 = .ok (.iload_n 2, 1) := by decide +kernel
theorem dX8_partArea_17 : decode cX8_partArea 17 = .ok (.iconst 1, 1) := by decide +kernel
theorem dX8_partArea_18 : decode cX8_partArea 18 = .ok (.iadd, 1) := by decide +kernel
theorem dX8_partArea_19 : decode cX8_partArea 19 = .ok (.iaload, 1) := by decide +kernel
theorem dX8_partArea_20 : decode cX8_partArea 20 = .ok (.aload_n 0, 1) := by decide +kernel
theorem dX8_partArea_21 : decode cX8_partArea 21 = .ok (.getfield 62, 3) := by decide +kernel
theorem dX8_partArea_24 : decode cX8_partArea 24 = .ok (.iload_n 2, 1) := by decide +kernel
theorem dX8_partArea_25 : decode cX8_partArea 25 = .ok (.iconst 2, 1) := by decide +kernel
theorem dX8_partArea_26 : decode cX8_partArea 26 = .ok (.iadd, 1) := by decide +kernel
theorem dX8_partArea_27 : decode cX8_partArea 27 = .ok (.iaload, 1) := by decide +kernel
theorem dX8_partArea_28 : decode cX8_partArea 28 = .ok (.aload_n 0, 1) := by decide +kernel
theorem dX8_partArea_29 : decode cX8_partArea 29 = .ok (.getfield 62, 3) := by decide +kernel
theorem dX8_partArea_32 : decode cX8_partArea 32 = .ok (.iload_n 2, 1) := by decide +kernel
theorem dX8_partArea_33 : decode cX8_partArea 33 = .ok (.iconst 3, 1) := by decide +kernel
theorem dX8_partArea_34 : decode cX8_partArea 34 = .ok (.iadd, 1) := by decide +kernel
theorem dX8_partArea_35 : decode cX8_partArea 35 = .ok (.iaload, 1) := by decide +kernel
theorem dX8_partArea_36 : decode cX8_partArea 36 = .ok (.invokestatic 100, 3) := by decide +kernel
theorem dX8_partArea_39 : decode cX8_partArea 39 = .ok (.lreturn, 1) := by decide +kernel
theorem dX8_growth_0 : decode cX8_growth 0 = .ok (.iconst 4, 1) := by decide +kernel
theorem dX8_growth_1 : decode cX8_growth 1 = .ok (.iload_n 1, 1) := by decide +kernel
theorem dX8_growth_2 : decode cX8_growth 2 = .ok (.iconst 1, 1) := by decide +kernel
theorem dX8_growth_3 : decode cX8_growth 3 = .ok (.isub, 1) := by decide +kernel
theorem dX8_growth_4 : decode cX8_growth 4 = .ok (.imul, 1) := by decide +kernel
theorem dX8_growth_5 : decode cX8_growth 5 = .ok (.istore 4, 2) := by decide +kernel
theorem dX8_growth_7 : decode cX8_growth 7 = .ok (.aload_n 0, 1) := by decide +kernel
theorem dX8_growth_8 : decode cX8_growth 8 = .ok (.getfield 62, 3) := by decide +kernel
theorem dX8_growth_11 : decode cX8_growth 11 = .ok (.iload 4, 2) := by decide +kernel
theorem dX8_growth_13 : decode cX8_growth 13 = .ok (.iaload, 1) := by decide +kernel
theorem dX8_growth_14 : decode cX8_growth 14 = .ok (.aload_n 0, 1) := by decide +kernel
theorem dX8_growth_15 : decode cX8_growth 15 = .ok (.iload_n 2, 1) := by decide +kernel
theorem dX8_growth_16 : decode cX8_growth 16 = .ok (.iload_n 3, 1) := by decide +kernel
theorem dX8_growth_17 : decode cX8_growth 17 = .ok (.iconst 0, 1) := by decide +kernel
theorem dX8_growth_18 : decode cX8_growth 18 = .ok (.invokevirtual 96, 3) := by decide +kernel
theorem dX8_growth_21 : decode cX8_growth 21 = .ok (.invokestatic 104, 3) := by decide +kernel
theorem dX8_growth_24 : decode cX8_growth 24 = .ok (.aload_n 0, 1) := by decide +kernel
theorem dX8_growth_25 : decode cX8_growth 25 = .ok (.getfield 62, 3) := by decide +kernel
theorem dX8_growth_28 : decode cX8_growth 28 = .ok (.iload 4, 2) := by decide +kernel
theorem dX8_growth_30 : decode cX8_growth 30 = .ok (.iconst 1, 1) := by decide +kernel
theorem dX8_growth_31 : decode cX8_growth 31 = .ok (.iadd, 1) := by decide +kernel
theorem dX8_growth_32 : decode cX8_growth 32 = .ok (.iaload, 1) := by decide +kernel
theorem dX8_growth_33 : decode cX8_growth 33 = .ok (.aload_n 0, 1) := by decide +kernel
theorem dX8_growth_34 : decode cX8_growth 34 = .ok (.iload_n 2, 1) := by decide +kernel
theorem dX8_growth_35 : decode cX8_growth 35 = .ok (.iload_n 3, 1) := by decide +kernel
theorem dX8_growth_36 : decode cX8_growth 36 = .ok (.iconst 1, 1) := by decide +kernel
theorem dX8_growth_37 : decode cX8_growth 37 = .ok (.invokevirtual 96, 3) := by decide +kernel
theorem dX8_growth_40 : decode cX8_growth 40 = .ok (.invokestatic 104, 3) := by decide +kernel
theorem dX8_growth_43 : decode cX8_growth 43 = .ok (.aload_n 0, 1) := by decide +kernel
theorem dX8_growth_44 : decode cX8_growth 44 = .ok (.getfield 62, 3) := by decide +kernel
theorem dX8_growth_47 : decode cX8_growth 47 = .ok (.iload 4, 2) := by decide +kernel
theorem dX8_growth_49 : decode cX8_growth 49 = .ok (.iconst 2, 1) := by decide +kernel
theorem dX8_growth_50 : decode cX8_growth 50 = .ok (.iadd, 1) := by decide +kernel
theorem dX8_growth_51 : decode cX8_growth 51 = .ok (.iaload, 1) := by decide +kernel
theorem dX8_growth_52 : decode cX8_growth 52 = .ok (.aload_n 0, 1) := by decide +kernel
theorem dX8_growth_53 : decode cX8_growth 53 = .ok (.iload_n 2, 1) := by decide +kernel
theorem dX8_growth_54 : decode cX8_growth 54 = .ok (.iload_n 3, 1) := by decide +kernel
theorem dX8_growth_55 : decode cX8_growth 55 = .ok (.iconst 2, 1) := by decide +kernel
theorem dX8_growth_56 : decode cX8_growth 56 = .ok (.invokevirtual 96, 3) := by decide +kernel
theorem dX8_growth_59 : decode cX8_growth 59 = .ok (.invokestatic 108, 3) := by decide +kernel
theorem dX8_growth_62 : decode cX8_growth 62 = .ok (.aload_n 0, 1) := by decide +kernel
theorem dX8_growth_63 : decode cX8_growth 63 = .ok (.getfield 62, 3) := by decide +kernel
theorem dX8_growth_66 : decode cX8_growth 66 = .ok (.iload 4, 2) := by decide +kernel
theorem dX8_growth_68 : decode cX8_growth 68 = .ok (.iconst 3, 1) := by decide +kernel
theorem dX8_growth_69 : decode cX8_growth 69 = .ok (.iadd, 1) := by decide +kernel
theorem dX8_growth_70 : decode cX8_growth 70 = .ok (.iaload, 1) := by decide +kernel
theorem dX8_growth_71 : decode cX8_growth 71 = .ok (.aload_n 0, 1) := by decide +kernel
theorem dX8_growth_72 : decode cX8_growth 72 = .ok (.iload_n 2, 1) := by decide +kernel
theorem dX8_growth_73 : decode cX8_growth 73 = .ok (.iload_n 3, 1) := by decide +kernel
theorem dX8_growth_74 : decode cX8_growth 74 = .ok (.iconst 3, 1) := by decide +kernel
theorem dX8_growth_75 : decode cX8_growth 75 = .ok (.invokevirtual 96, 3) := by decide +kernel
theorem dX8_growth_78 : decode cX8_growth 78 = .ok (.invokestatic 108, 3) := by decide +kernel
theorem dX8_growth_81 : decode cX8_growth 81 = .ok (.invokestatic 100, 3) := by decide +kernel
theorem dX8_growth_84 : decode cX8_growth 84 = .ok (.aload_n 0, 1) := by decide +kernel
theorem dX8_growth_85 : decode cX8_growth 85 = .ok (.iload_n 1, 1) := by decide +kernel
theorem dX8_growth_86 : decode cX8_growth 86 = .ok (.invokevirtual 159, 3) := by decide +kernel
theorem dX8_growth_89 : decode cX8_growth 89 = .ok (.lsub, 1) := by decide +kernel
theorem dX8_growth_90 : decode cX8_growth 90 = .ok (.lreturn, 1) := by decide +kernel
theorem dX8_comeBest_0 : decode cX8_comeBest 0 = .ok (.bipush (-2), 2) := by decide +kernel
theorem dX8_comeBest_2 : decode cX8_comeBest 2 = .ok (.istore 4, 2) := by decide +kernel
theorem dX8_comeBest_4 : decode cX8_comeBest 4 = .ok (.ldc2_w 163, 3) := by decide +kernel
theorem dX8_comeBest_7 : decode cX8_comeBest 7 = .ok (.lstore 5, 2) := by decide +kernel
theorem dX8_comeBest_9 : decode cX8_comeBest 9 = .ok (.iconst 0, 1) := by decide +kernel
theorem dX8_comeBest_10 : decode cX8_comeBest 10 = .ok (.istore 7, 2) := by decide +kernel
theorem dX8_comeBest_12 : decode cX8_comeBest 12 = .ok (.iload 7, 2) := by decide +kernel
theorem dX8_comeBest_14 : decode cX8_comeBest 14 = .ok (.iload_n 1, 1) := by decide +kernel
theorem dX8_comeBest_15 : decode cX8_comeBest 15 = .ok (.if_icmp .ge 81, 3) := by decide +kernel
theorem dX8_comeBest_18 : decode cX8_comeBest 18 = .ok (.aload_n 0, 1) := by decide +kernel
theorem dX8_comeBest_19 : decode cX8_comeBest 19 = .ok (.getfield 56, 3) := by decide +kernel
theorem dX8_comeBest_22 : decode cX8_comeBest 22 = .ok (.iload 7, 2) := by decide +kernel
theorem dX8_comeBest_24 : decode cX8_comeBest 24 = .ok (.iaload, 1) := by decide +kernel
theorem dX8_comeBest_25 : decode cX8_comeBest 25 = .ok (.ifCond .ne 65, 3) := by decide +kernel
theorem dX8_comeBest_28 : decode cX8_comeBest 28 = .ok (.aload_n 0, 1) := by decide +kernel
theorem dX8_comeBest_29 : decode cX8_comeBest 29 = .ok (.iconst 1, 1) := by decide +kernel
theorem dX8_comeBest_30 : decode cX8_comeBest 30 = .ok (.iload_n 2, 1) := by decide +kernel
theorem dX8_comeBest_31 : decode cX8_comeBest 31 = .ok (.aload_n 0, 1) := by decide +kernel
theorem dX8_comeBest_32 : decode cX8_comeBest 32 = .ok (.getfield 53, 3) := by decide +kernel
theorem dX8_comeBest_35 : decode cX8_comeBest 35 = .ok (.iload 7, 2) := by decide +kernel
theorem dX8_comeBest_37 : decode cX8_comeBest 37 = .ok (.iaload, 1) := by decide +kernel
theorem dX8_comeBest_38 : decode cX8_comeBest 38 = .ok (.invokevirtual 165, 3) := by decide +kernel
theorem dX8_comeBest_41 : decode cX8_comeBest 41 = .ok (.aload_n 0, 1) := by decide +kernel
theorem dX8_comeBest_42 : decode cX8_comeBest 42 = .ok (.iconst 2, 1) := by decide +kernel
theorem dX8_comeBest_43 : decode cX8_comeBest 43 = .ok (.iload_n 2, 1) := by decide +kernel
theorem dX8_comeBest_44 : decode cX8_comeBest 44 = .ok (.aload_n 0, 1) := by decide +kernel
theorem dX8_comeBest_45 : decode cX8_comeBest 45 = .ok (.getfield 53, 3) := by decide +kernel
theorem dX8_comeBest_48 : decode cX8_comeBest 48 = .ok (.iload 7, 2) := by decide +kernel
theorem dX8_comeBest_50 : decode cX8_comeBest 50 = .ok (.iaload, 1) := by decide +kernel
theorem dX8_comeBest_51 : decode cX8_comeBest 51 = .ok (.invokevirtual 165, 3) := by decide +kernel
theorem dX8_comeBest_54 : decode cX8_comeBest 54 = .ok (.lsub, 1) := by decide +kernel
theorem dX8_comeBest_55 : decode cX8_comeBest 55 = .ok (.lstore 8, 2) := by decide +kernel
theorem dX8_comeBest_57 : decode cX8_comeBest 57 = .ok (.lload 8, 2) := by decide +kernel
theorem dX8_comeBest_59 : decode cX8_comeBest 59 = .ok (.lconst 0, 1) := by decide +kernel
theorem dX8_comeBest_60 : decode cX8_comeBest 60 = .ok (.lcmp, 1) := by decide +kernel
theorem dX8_comeBest_61 : decode cX8_comeBest 61 = .ok (.ifCond .ge 9, 3) := by decide +kernel
theorem dX8_comeBest_64 : decode cX8_comeBest 64 = .ok (.lload 8, 2) := by decide +kernel
theorem dX8_comeBest_66 : decode cX8_comeBest 66 = .ok (.lneg, 1) := by decide +kernel
theorem dX8_comeBest_67 : decode cX8_comeBest 67 = .ok (.goto 5, 3) := by decide +kernel
theorem dX8_comeBest_70 : decode cX8_comeBest 70 = .ok (.lload 8, 2) := by decide +kernel
theorem dX8_comeBest_72 : decode cX8_comeBest 72 = .ok (.lstore 10, 2) := by decide +kernel
theorem dX8_comeBest_74 : decode cX8_comeBest 74 = .ok (.lload 10, 2) := by decide +kernel
theorem dX8_comeBest_76 : decode cX8_comeBest 76 = .ok (.lload 5, 2) := by decide +kernel
theorem dX8_comeBest_78 : decode cX8_comeBest 78 = .ok (.lcmp, 1) := by decide +kernel
theorem dX8_comeBest_79 : decode cX8_comeBest 79 = .ok (.ifCond .le 11, 3) := by decide +kernel
theorem dX8_comeBest_82 : decode cX8_comeBest 82 = .ok (.iload 7, 2) := by decide +kernel
theorem dX8_comeBest_84 : decode cX8_comeBest 84 = .ok (.istore 4, 2) := by decide +kernel
theorem dX8_comeBest_86 : decode cX8_comeBest 86 = .ok (.lload 10, 2) := by decide +kernel
theorem dX8_comeBest_88 : decode cX8_comeBest 88 = .ok (.lstore 5, 2) := by decide +kernel
theorem dX8_comeBest_90 : decode cX8_comeBest 90 = .ok (.iinc 7 1, 3) := by decide +kernel
theorem dX8_comeBest_93 : decode cX8_comeBest 93 = .ok (.goto (-81), 3) := by decide +kernel
theorem dX8_comeBest_96 : decode cX8_comeBest 96 = .ok (.aload_n 0, 1) := by decide +kernel
theorem dX8_comeBest_97 : decode cX8_comeBest 97 = .ok (.iconst 1, 1) := by decide +kernel
theorem dX8_comeBest_98 : decode cX8_comeBest 98 = .ok (.iload_n 2, 1) := by decide +kernel
theorem dX8_comeBest_99 : decode cX8_comeBest 99 = .ok (.aload_n 0, 1) := by decide +kernel
theorem dX8_comeBest_100 : decode cX8_comeBest 100 = .ok (.getfield 53, 3) := by decide +kernel
theorem dX8_comeBest_103 : decode cX8_comeBest 103 = .ok (.iload 4, 2) := by decide +kernel
theorem dX8_comeBest_105 : decode cX8_comeBest 105 = .ok (.iaload, 1) := by decide +kernel
theorem dX8_comeBest_106 : decode cX8_comeBest 106 = .ok (.invokevirtual 165, 3) := by decide +kernel
theorem dX8_comeBest_109 : decode cX8_comeBest 109 = .ok (.aload_n 0, 1) := by decide +kernel
theorem dX8_comeBest_110 : decode cX8_comeBest 110 = .ok (.iconst 2, 1) := by decide +kernel
theorem dX8_comeBest_111 : decode cX8_comeBest 111 = .ok (.iload_n 2, 1) := by decide +kernel
theorem dX8_comeBest_112 : decode cX8_comeBest 112 = .ok (.aload_n 0, 1) := by decide +kernel
theorem dX8_comeBest_113 : decode cX8_comeBest 113 = .ok (.getfield 53, 3) := by decide +kernel
theorem dX8_comeBest_116 : decode cX8_comeBest 116 = .ok (.iload 4, 2) := by decide +kernel
theorem dX8_comeBest_118 : decode cX8_comeBest 118 = .ok (.iaload, 1) := by decide +kernel
theorem dX8_comeBest_119 : decode cX8_comeBest 119 = .ok (.invokevirtual 165, 3) := by decide +kernel
theorem dX8_comeBest_122 : decode cX8_comeBest 122 = .ok (.lsub, 1) := by decide +kernel
theorem dX8_comeBest_123 : decode cX8_comeBest 123 = .ok (.lstore 7, 2) := by decide +kernel
theorem dX8_comeBest_125 : decode cX8_comeBest 125 = .ok (.lload 7, 2) := by decide +kernel
theorem dX8_comeBest_127 : decode cX8_comeBest 127 = .ok (.lconst 0, 1) := by decide +kernel
theorem dX8_comeBest_128 : decode cX8_comeBest 128 = .ok (.lcmp, 1) := by decide +kernel
theorem dX8_comeBest_129 : decode cX8_comeBest 129 = .ok (.ifCond .eq 8, 3) := by decide +kernel
theorem dX8_comeBest_132 : decode cX8_comeBest 132 = .ok (.lload 7, 2) := by decide +kernel
theorem dX8_comeBest_134 : decode cX8_comeBest 134 = .ok (.goto 14, 3) := by decide +kernel
theorem dX8_comeBest_137 : decode cX8_comeBest 137 = .ok (.aload_n 0, 1) := by decide +kernel
theorem dX8_comeBest_138 : decode cX8_comeBest 138 = .ok (.iconst 1, 1) := by decide +kernel
theorem dX8_comeBest_139 : decode cX8_comeBest 139 = .ok (.invokevirtual 159, 3) := by decide +kernel
theorem dX8_comeBest_142 : decode cX8_comeBest 142 = .ok (.aload_n 0, 1) := by decide +kernel
theorem dX8_comeBest_143 : decode cX8_comeBest 143 = .ok (.iconst 2, 1) := by decide +kernel
theorem dX8_comeBest_144 : decode cX8_comeBest 144 = .ok (.invokevirtual 159, 3) := by decide +kernel
theorem dX8_comeBest_147 : decode cX8_comeBest 147 = .ok (.lsub, 1) := by decide +kernel
theorem dX8_comeBest_148 : decode cX8_comeBest 148 = .ok (.lstore 7, 2) := by decide +kernel
theorem dX8_comeBest_150 : decode cX8_comeBest 150 = .ok (.lload 7, 2) := by decide +kernel
theorem dX8_comeBest_152 : decode cX8_comeBest 152 = .ok (.lconst 0, 1) := by decide +kernel
theorem dX8_comeBest_153 : decode cX8_comeBest 153 = .ok (.lcmp, 1) := by decide +kernel
theorem dX8_comeBest_154 : decode cX8_comeBest 154 = .ok (.ifCond .eq 8, 3) := by decide +kernel
theorem dX8_comeBest_157 : decode cX8_comeBest 157 = .ok (.lload 7, 2) := by decide +kernel
theorem dX8_comeBest_159 : decode cX8_comeBest 159 = .ok (.goto 17, 3) := by decide +kernel
theorem dX8_comeBest_162 : decode cX8_comeBest 162 = .ok (.aload_n 0, 1) := by decide +kernel
theorem dX8_comeBest_163 : decode cX8_comeBest 163 = .ok (.getfield 65, 3) := by decide +kernel
theorem dX8_comeBest_166 : decode cX8_comeBest 166 = .ok (.iconst 0, 1) := by decide +kernel
theorem dX8_comeBest_167 : decode cX8_comeBest 167 = .ok (.iaload, 1) := by decide +kernel
theorem dX8_comeBest_168 : decode cX8_comeBest 168 = .ok (.aload_n 0, 1) := by decide +kernel
theorem dX8_comeBest_169 : decode cX8_comeBest 169 = .ok (.getfield 65, 3) := by decide +kernel
theorem dX8_comeBest_172 : decode cX8_comeBest 172 = .ok (.iconst 1, 1) := by decide +kernel
theorem dX8_comeBest_173 : decode cX8_comeBest 173 = .ok (.iaload, 1) := by decide +kernel
theorem dX8_comeBest_174 : decode cX8_comeBest 174 = .ok (.isub, 1) := by decide +kernel
theorem dX8_comeBest_175 : decode cX8_comeBest 175 = .ok (.i2l, 1) := by decide +kernel
theorem dX8_comeBest_176 : decode cX8_comeBest 176 = .ok (.lstore 7, 2) := by decide +kernel
theorem dX8_comeBest_178 : decode cX8_comeBest 178 = .ok (.aload_n 0, 1) := by decide +kernel
theorem dX8_comeBest_179 : decode cX8_comeBest 179 = .ok (.iload 4, 2) := by decide +kernel
theorem dX8_comeBest_181 : decode cX8_comeBest 181 = .ok (.lload 7, 2) := by decide +kernel
theorem dX8_comeBest_183 : decode cX8_comeBest 183 = .ok (.lconst 0, 1) := by decide +kernel
theorem dX8_comeBest_184 : decode cX8_comeBest 184 = .ok (.lcmp, 1) := by decide +kernel
theorem dX8_comeBest_185 : decode cX8_comeBest 185 = .ok (.ifCond .gt 7, 3) := by decide +kernel
theorem dX8_comeBest_188 : decode cX8_comeBest 188 = .ok (.iconst 1, 1) := by decide +kernel
theorem dX8_comeBest_189 : decode cX8_comeBest 189 = .ok (.goto 4, 3) := by decide +kernel
theorem dX8_comeBest_192 : decode cX8_comeBest 192 = .ok (.iconst 2, 1) := by decide +kernel
theorem dX8_comeBest_193 : decode cX8_comeBest 193 = .ok (.iload_n 2, 1) := by decide +kernel
theorem dX8_comeBest_194 : decode cX8_comeBest 194 = .ok (.iload_n 3, 1) := by decide +kernel
theorem dX8_comeBest_195 : decode cX8_comeBest 195 = .ok (.invokevirtual 152, 3) := by decide +kernel
theorem dX8_comeBest_198 : decode cX8_comeBest 198 = .ok (.ireturn, 1) := by decide +kernel
theorem dX8_find_0 : decode cX8_find 0 = .ok (.iconst 0, 1) := by decide +kernel
theorem dX8_find_1 : decode cX8_find 1 = .ok (.istore 6, 2) := by decide +kernel
theorem dX8_find_3 : decode cX8_find 3 = .ok (.iload 6, 2) := by decide +kernel
theorem dX8_find_5 : decode cX8_find 5 = .ok (.sipush 400, 3) := by decide +kernel
theorem dX8_find_8 : decode cX8_find 8 = .ok (.if_icmp .ge 83, 3) := by decide +kernel
theorem dX8_find_11 : decode cX8_find 11 = .ok (.aload_n 0, 1) := by decide +kernel
theorem dX8_find_12 : decode cX8_find 12 = .ok (.getfield 13, 3) := by decide +kernel
theorem dX8_find_15 : decode cX8_find 15 = .ok (.iload 6, 2) := by decide +kernel
theorem dX8_find_17 : decode cX8_find 17 = .ok (.iaload, 1) := by decide +kernel
theorem dX8_find_18 : decode cX8_find 18 = .ok (.iload_n 1, 1) := by decide +kernel
theorem dX8_find_19 : decode cX8_find 19 = .ok (.if_icmp .ne 66, 3) := by decide +kernel
theorem dX8_find_22 : decode cX8_find 22 = .ok (.aload_n 0, 1) := by decide +kernel
theorem dX8_find_23 : decode cX8_find 23 = .ok (.getfield 17, 3) := by decide +kernel
theorem dX8_find_26 : decode cX8_find 26 = .ok (.iconst 4, 1) := by decide +kernel
theorem dX8_find_27 : decode cX8_find 27 = .ok (.iload 6, 2) := by decide +kernel
theorem dX8_find_29 : decode cX8_find 29 = .ok (.imul, 1) := by decide +kernel
theorem dX8_find_30 : decode cX8_find 30 = .ok (.iaload, 1) := by decide +kernel
theorem dX8_find_31 : decode cX8_find 31 = .ok (.iload_n 2, 1) := by decide +kernel
theorem dX8_find_32 : decode cX8_find 32 = .ok (.if_icmp .ne 53, 3) := by decide +kernel
theorem dX8_find_35 : decode cX8_find 35 = .ok (.aload_n 0, 1) := by decide +kernel
theorem dX8_find_36 : decode cX8_find 36 = .ok (.getfield 17, 3) := by decide +kernel
theorem dX8_find_39 : decode cX8_find 39 = .ok (.iconst 4, 1) := by decide +kernel
theorem dX8_find_40 : decode cX8_find 40 = .ok (.iload 6, 2) := by decide +kernel
theorem dX8_find_42 : decode cX8_find 42 = .ok (.imul, 1) := by decide +kernel
theorem dX8_find_43 : decode cX8_find 43 = .ok (.iconst 1, 1) := by decide +kernel
theorem dX8_find_44 : decode cX8_find 44 = .ok (.iadd, 1) := by decide +kernel
theorem dX8_find_45 : decode cX8_find 45 = .ok (.iaload, 1) := by decide +kernel
theorem dX8_find_46 : decode cX8_find 46 = .ok (.iload_n 3, 1) := by decide +kernel
theorem dX8_find_47 : decode cX8_find 47 = .ok (.if_icmp .ne 38, 3) := by decide +kernel
theorem dX8_find_50 : decode cX8_find 50 = .ok (.aload_n 0, 1) := by decide +kernel
theorem dX8_find_51 : decode cX8_find 51 = .ok (.getfield 17, 3) := by decide +kernel
theorem dX8_find_54 : decode cX8_find 54 = .ok (.iconst 4, 1) := by decide +kernel
theorem dX8_find_55 : decode cX8_find 55 = .ok (.iload 6, 2) := by decide +kernel
theorem dX8_find_57 : decode cX8_find 57 = .ok (.imul, 1) := by decide +kernel
theorem dX8_find_58 : decode cX8_find 58 = .ok (.iconst 2, 1) := by decide +kernel
theorem dX8_find_59 : decode cX8_find 59 = .ok (.iadd, 1) := by decide +kernel
theorem dX8_find_60 : decode cX8_find 60 = .ok (.iaload, 1) := by decide +kernel
theorem dX8_find_61 : decode cX8_find 61 = .ok (.iload 4, 2) := by decide +kernel
theorem dX8_find_63 : decode cX8_find 63 = .ok (.if_icmp .ne 22, 3) := by decide +kernel
theorem dX8_find_66 : decode cX8_find 66 = .ok (.aload_n 0, 1) := by decide +kernel
theorem dX8_find_67 : decode cX8_find 67 = .ok (.getfield 17, 3) := by decide +kernel
theorem dX8_find_70 : decode cX8_find 70 = .ok (.iconst 4, 1) := by decide +kernel
theorem dX8_find_71 : decode cX8_find 71 = .ok (.iload 6, 2) := by decide +kernel
theorem dX8_find_73 : decode cX8_find 73 = .ok (.imul, 1) := by decide +kernel
theorem dX8_find_74 : decode cX8_find 74 = .ok (.iconst 3, 1) := by decide +kernel
theorem dX8_find_75 : decode cX8_find 75 = .ok (.iadd, 1) := by decide +kernel
theorem dX8_find_76 : decode cX8_find 76 = .ok (.iaload, 1) := by decide +kernel
theorem dX8_find_77 : decode cX8_find 77 = .ok (.iload 5, 2) := by decide +kernel
theorem dX8_find_79 : decode cX8_find 79 = .ok (.if_icmp .ne 6, 3) := by decide +kernel
theorem dX8_find_82 : decode cX8_find 82 = .ok (.iload 6, 2) := by decide +kernel
theorem dX8_find_84 : decode cX8_find 84 = .ok (.ireturn, 1) := by decide +kernel
theorem dX8_find_85 : decode cX8_find 85 = .ok (.iinc 6 1, 3) := by decide +kernel
theorem dX8_find_88 : decode cX8_find 88 = .ok (.goto (-85), 3) := by decide +kernel
theorem dX8_find_91 : decode cX8_find 91 = .ok (.bipush (-2), 2) := by decide +kernel
theorem dX8_find_93 : decode cX8_find 93 = .ok (.ireturn, 1) := by decide +kernel
theorem dX8_isEntry_0 : decode cX8_isEntry 0 = .ok (.iload_n 0, 1) := by decide +kernel
theorem dX8_isEntry_1 : decode cX8_isEntry 1 = .ok (.ifCond .lt 25, 3) := by decide +kernel
theorem dX8_isEntry_4 : decode cX8_isEntry 4 = .ok (.iload_n 0, 1) := by decide +kernel
theorem dX8_isEntry_5 : decode cX8_isEntry 5 = .ok (.sipush 1000, 3) := by decide +kernel
theorem dX8_isEntry_8 : decode cX8_isEntry 8 = .ok (.if_icmp .ge 18, 3) := by decide +kernel
theorem dX8_isEntry_11 : decode cX8_isEntry 11 = .ok (.iload_n 1, 1) := by decide +kernel
theorem dX8_isEntry_12 : decode cX8_isEntry 12 = .ok (.iload_n 2, 1) := by decide +kernel
theorem dX8_isEntry_13 : decode cX8_isEntry 13 = .ok (.iload_n 3, 1) := by decide +kernel
theorem dX8_isEntry_14 : decode cX8_isEntry 14 = .ok (.iload 4, 2) := by decide +kernel
theorem dX8_isEntry_16 : decode cX8_isEntry 16 = .ok (.invokestatic 169, 3) := by decide +kernel
theorem dX8_isEntry_19 : decode cX8_isEntry 19 = .ok (.ifCond .eq 7, 3) := by decide +kernel
theorem dX8_isEntry_22 : decode cX8_isEntry 22 = .ok (.iconst 1, 1) := by decide +kernel
theorem dX8_isEntry_23 : decode cX8_isEntry 23 = .ok (.goto 4, 3) := by decide +kernel
theorem dX8_isEntry_26 : decode cX8_isEntry 26 = .ok (.iconst 0, 1) := by decide +kernel
theorem dX8_isEntry_27 : decode cX8_isEntry 27 = .ok (.ireturn, 1) := by decide +kernel
theorem dX8_insert_0 : decode cX8_insert 0 = .ok (.iload_n 1, 1) := by decide +kernel
theorem dX8_insert_1 : decode cX8_insert 1 = .ok (.iload_n 2, 1) := by decide +kernel
theorem dX8_insert_2 : decode cX8_insert 2 = .ok (.iload_n 3, 1) := by decide +kernel
theorem dX8_insert_3 : decode cX8_insert 3 = .ok (.iload 4, 2) := by decide +kernel
theorem dX8_insert_5 : decode cX8_insert 5 = .ok (.iload 5, 2) := by decide +kernel
theorem dX8_insert_7 : decode cX8_insert 7 = .ok (.invokestatic 173, 3) := by decide +kernel
theorem dX8_insert_10 : decode cX8_insert 10 = .ok (.ifCond .ne 5, 3) := by decide +kernel
theorem dX8_insert_13 : decode cX8_insert 13 = .ok (.iconst (-1), 1) := by decide +kernel
theorem dX8_insert_14 : decode cX8_insert 14 = .ok (.ireturn, 1) := by decide +kernel
theorem dX8_insert_15 : decode cX8_insert 15 = .ok (.aload_n 0, 1) := by decide +kernel
theorem dX8_insert_16 : decode cX8_insert 16 = .ok (.iload_n 1, 1) := by decide +kernel
theorem dX8_insert_17 : decode cX8_insert 17 = .ok (.iload_n 2, 1) := by decide +kernel
theorem dX8_insert_18 : decode cX8_insert 18 = .ok (.iload_n 3, 1) := by decide +kernel
theorem dX8_insert_19 : decode cX8_insert 19 = .ok (.iload 4, 2) := by decide +kernel
theorem dX8_insert_21 : decode cX8_insert 21 = .ok (.iload 5, 2) := by decide +kernel
theorem dX8_insert_23 : decode cX8_insert 23 = .ok (.invokevirtual 177, 3) := by decide +kernel
theorem dX8_insert_26 : decode cX8_insert 26 = .ok (.ifCond .lt 6, 3) := by decide +kernel
theorem dX8_insert_29 : decode cX8_insert 29 = .ok (.bipush (-2), 2) := by decide +kernel
theorem dX8_insert_31 : decode cX8_insert 31 = .ok (.ireturn, 1) := by decide +kernel
theorem dX8_insert_32 : decode cX8_insert 32 = .ok (.aload_n 0, 1) := by decide +kernel
theorem dX8_insert_33 : decode cX8_insert 33 = .ok (.getfield 181, 3) := by decide +kernel
theorem dX8_insert_36 : decode cX8_insert 36 = .ok (.sipush 400, 3) := by decide +kernel
theorem dX8_insert_39 : decode cX8_insert 39 = .ok (.if_icmp .ne 6, 3) := by decide +kernel
theorem dX8_insert_42 : decode cX8_insert 42 = .ok (.bipush (-3), 2) := by decide +kernel
theorem dX8_insert_44 : decode cX8_insert 44 = .ok (.ireturn, 1) := by decide +kernel
theorem dX8_insert_45 : decode cX8_insert 45 = .ok (.iconst 0, 1) := by decide +kernel
theorem dX8_insert_46 : decode cX8_insert 46 = .ok (.istore 6, 2) := by decide +kernel
theorem dX8_insert_48 : decode cX8_insert 48 = .ok (.aload_n 0, 1) := by decide +kernel
theorem dX8_insert_49 : decode cX8_insert 49 = .ok (.getfield 13, 3) := by decide +kernel
theorem dX8_insert_52 : decode cX8_insert 52 = .ok (.iload 6, 2) := by decide +kernel
theorem dX8_insert_54 : decode cX8_insert 54 = .ok (.iaload, 1) := by decide +kernel
theorem dX8_insert_55 : decode cX8_insert 55 = .ok (.ifCond .lt 9, 3) := by decide +kernel
theorem dX8_insert_58 : decode cX8_insert 58 = .ok (.iinc 6 1, 3) := by decide +kernel
theorem dX8_insert_61 : decode cX8_insert 61 = .ok (.goto (-13), 3) := by decide +kernel
theorem dX8_insert_64 : decode cX8_insert 64 = .ok (.aload_n 0, 1) := by decide +kernel
theorem dX8_insert_65 : decode cX8_insert 65 = .ok (.getfield 13, 3) := by decide +kernel
theorem dX8_insert_68 : decode cX8_insert 68 = .ok (.iload 6, 2) := by decide +kernel
theorem dX8_insert_70 : decode cX8_insert 70 = .ok (.iload_n 1, 1) := by decide +kernel
theorem dX8_insert_71 : decode cX8_insert 71 = .ok (.iastore, 1) := by decide +kernel
theorem dX8_insert_72 : decode cX8_insert 72 = .ok (.aload_n 0, 1) := by decide +kernel
theorem dX8_insert_73 : decode cX8_insert 73 = .ok (.getfield 17, 3) := by decide +kernel
theorem dX8_insert_76 : decode cX8_insert 76 = .ok (.iconst 4, 1) := by decide +kernel
theorem dX8_insert_77 : decode cX8_insert 77 = .ok (.iload 6, 2) := by decide +kernel
theorem dX8_insert_79 : decode cX8_insert 79 = .ok (.imul, 1) := by decide +kernel
theorem dX8_insert_80 : decode cX8_insert 80 = .ok (.iload_n 2, 1) := by decide +kernel
theorem dX8_insert_81 : decode cX8_insert 81 = .ok (.iastore, 1) := by decide +kernel
theorem dX8_insert_82 : decode cX8_insert 82 = .ok (.aload_n 0, 1) := by decide +kernel
theorem dX8_insert_83 : decode cX8_insert 83 = .ok (.getfield 17, 3) := by decide +kernel
theorem dX8_insert_86 : decode cX8_insert 86 = .ok (.iconst 4, 1) := by decide +kernel
theorem dX8_insert_87 : decode cX8_insert 87 = .ok (.iload 6, 2) := by decide +kernel
theorem dX8_insert_89 : decode cX8_insert 89 = .ok (.imul, 1) := by decide +kernel
theorem dX8_insert_90 : decode cX8_insert 90 = .ok (.iconst 1, 1) := by decide +kernel
theorem dX8_insert_91 : decode cX8_insert 91 = .ok (.iadd, 1) := by decide +kernel
theorem dX8_insert_92 : decode cX8_insert 92 = .ok (.iload_n 3, 1) := by decide +kernel
theorem dX8_insert_93 : decode cX8_insert 93 = .ok (.iastore, 1) := by decide +kernel
theorem dX8_insert_94 : decode cX8_insert 94 = .ok (.aload_n 0, 1) := by decide +kernel
theorem dX8_insert_95 : decode cX8_insert 95 = .ok (.getfield 17, 3) := by decide +kernel
theorem dX8_insert_98 : decode cX8_insert 98 = .ok (.iconst 4, 1) := by decide +kernel
theorem dX8_insert_99 : decode cX8_insert 99 = .ok (.iload 6, 2) := by decide +kernel
theorem dX8_insert_101 : decode cX8_insert 101 = .ok (.imul, 1) := by decide +kernel
theorem dX8_insert_102 : decode cX8_insert 102 = .ok (.iconst 2, 1) := by decide +kernel
theorem dX8_insert_103 : decode cX8_insert 103 = .ok (.iadd, 1) := by decide +kernel
theorem dX8_insert_104 : decode cX8_insert 104 = .ok (.iload 4, 2) := by decide +kernel
theorem dX8_insert_106 : decode cX8_insert 106 = .ok (.iastore, 1) := by decide +kernel
theorem dX8_insert_107 : decode cX8_insert 107 = .ok (.aload_n 0, 1) := by decide +kernel
theorem dX8_insert_108 : decode cX8_insert 108 = .ok (.getfield 17, 3) := by decide +kernel
theorem dX8_insert_111 : decode cX8_insert 111 = .ok (.iconst 4, 1) := by decide +kernel
theorem dX8_insert_112 : decode cX8_insert 112 = .ok (.iload 6, 2) := by decide +kernel
theorem dX8_insert_114 : decode cX8_insert 114 = .ok (.imul, 1) := by decide +kernel
theorem dX8_insert_115 : decode cX8_insert 115 = .ok (.iconst 3, 1) := by decide +kernel
theorem dX8_insert_116 : decode cX8_insert 116 = .ok (.iadd, 1) := by decide +kernel
theorem dX8_insert_117 : decode cX8_insert 117 = .ok (.iload 5, 2) := by decide +kernel
theorem dX8_insert_119 : decode cX8_insert 119 = .ok (.iastore, 1) := by decide +kernel
theorem dX8_insert_120 : decode cX8_insert 120 = .ok (.aload_n 0, 1) := by decide +kernel
theorem dX8_insert_121 : decode cX8_insert 121 = .ok (.dup, 1) := by decide +kernel
theorem dX8_insert_122 : decode cX8_insert 122 = .ok (.getfield 181, 3) := by decide +kernel
theorem dX8_insert_125 : decode cX8_insert 125 = .ok (.iconst 1, 1) := by decide +kernel
theorem dX8_insert_126 : decode cX8_insert 126 = .ok (.iadd, 1) := by decide +kernel
theorem dX8_insert_127 : decode cX8_insert 127 = .ok (.putfield 181, 3) := by decide +kernel
theorem dX8_insert_130 : decode cX8_insert 130 = .ok (.aload_n 0, 1) := by decide +kernel
theorem dX8_insert_131 : decode cX8_insert 131 = .ok (.iconst 0, 1) := by decide +kernel
theorem dX8_insert_132 : decode cX8_insert 132 = .ok (.putfield 184, 3) := by decide +kernel
theorem dX8_insert_135 : decode cX8_insert 135 = .ok (.aload_n 0, 1) := by decide +kernel
theorem dX8_insert_136 : decode cX8_insert 136 = .ok (.iconst (-1), 1) := by decide +kernel
theorem dX8_insert_137 : decode cX8_insert 137 = .ok (.iload 6, 2) := by decide +kernel
theorem dX8_insert_139 : decode cX8_insert 139 = .ok (.invokevirtual 188, 3) := by decide +kernel
theorem dX8_insert_142 : decode cX8_insert 142 = .ok (.aload_n 0, 1) := by decide +kernel
theorem dX8_insert_143 : decode cX8_insert 143 = .ok (.getfield 181, 3) := by decide +kernel
theorem dX8_insert_146 : decode cX8_insert 146 = .ok (.ireturn, 1) := by decide +kernel
theorem dX8_leafOf_0 : decode cX8_leafOf 0 = .ok (.iconst 0, 1) := by decide +kernel
theorem dX8_leafOf_1 : decode cX8_leafOf 1 = .ok (.istore_n 2, 1) := by decide +kernel
theorem dX8_leafOf_2 : decode cX8_leafOf 2 = .ok (.iload_n 2, 1) := by decide +kernel
theorem dX8_leafOf_3 : decode cX8_leafOf 3 = .ok (.sipush 500, 3) := by decide +kernel
theorem dX8_leafOf_6 : decode cX8_leafOf 6 = .ok (.if_icmp .ge 48, 3) := by decide +kernel
theorem dX8_leafOf_9 : decode cX8_leafOf 9 = .ok (.iconst 0, 1) := by decide +kernel
theorem dX8_leafOf_10 : decode cX8_leafOf 10 = .ok (.istore_n 3, 1) := by decide +kernel
theorem dX8_leafOf_11 : decode cX8_leafOf 11 = .ok (.aload_n 0, 1) := by decide +kernel
theorem dX8_leafOf_12 : decode cX8_leafOf 12 = .ok (.getfield 20, 3) := by decide +kernel
theorem dX8_leafOf_15 : decode cX8_leafOf 15 = .ok (.iload_n 2, 1) := by decide +kernel
theorem dX8_leafOf_16 : decode cX8_leafOf 16 = .ok (.iaload, 1) := by decide +kernel
theorem dX8_leafOf_17 : decode cX8_leafOf 17 = .ok (.ifCond .ne 31, 3) := by decide +kernel
theorem dX8_leafOf_20 : decode cX8_leafOf 20 = .ok (.iload_n 3, 1) := by decide +kernel
theorem dX8_leafOf_21 : decode cX8_leafOf 21 = .ok (.aload_n 0, 1) := by decide +kernel
theorem dX8_leafOf_22 : decode cX8_leafOf 22 = .ok (.getfield 23, 3) := by decide +kernel
theorem dX8_leafOf_25 : decode cX8_leafOf 25 = .ok (.iload_n 2, 1) := by decide +kernel
theorem dX8_leafOf_26 : decode cX8_leafOf 26 = .ok (.iaload, 1) := by decide +kernel
theorem dX8_leafOf_27 : decode cX8_leafOf 27 = .ok (.if_icmp .ge 21, 3) := by decide +kernel
theorem dX8_leafOf_30 : decode cX8_leafOf 30 = .ok (.aload_n 0, 1) := by decide +kernel
theorem dX8_leafOf_31 : decode cX8_leafOf 31 = .ok (.iload_n 2, 1) := by decide +kernel
theorem dX8_leafOf_32 : decode cX8_leafOf 32 = .ok (.iload_n 3, 1) := by decide +kernel
theorem dX8_leafOf_33 : decode cX8_leafOf 33 = .ok (.invokevirtual 115, 3) := by decide +kernel
theorem dX8_leafOf_36 : decode cX8_leafOf 36 = .ok (.iload_n 1, 1) := by decide +kernel
theorem dX8_leafOf_37 : decode cX8_leafOf 37 = .ok (.if_icmp .ne 5, 3) := by decide +kernel
theorem dX8_leafOf_40 : decode cX8_leafOf 40 = .ok (.iload_n 2, 1) := by decide +kernel
theorem dX8_leafOf_41 : decode cX8_leafOf 41 = .ok (.ireturn, 1) := by decide +kernel
theorem dX8_leafOf_42 : decode cX8_leafOf 42 = .ok (.iinc 3 1, 3) := by decide +kernel
theorem dX8_leafOf_45 : decode cX8_leafOf 45 = .ok (.goto (-34), 3) := by decide +kernel
theorem dX8_leafOf_48 : decode cX8_leafOf 48 = .ok (.iinc 2 1, 3) := by decide +kernel
theorem dX8_leafOf_51 : decode cX8_leafOf 51 = .ok (.goto (-49), 3) := by decide +kernel
theorem dX8_leafOf_54 : decode cX8_leafOf 54 = .ok (.bipush (-2), 2) := by decide +kernel
theorem dX8_leafOf_56 : decode cX8_leafOf 56 = .ok (.ireturn, 1) := by decide +kernel
theorem dX8_remove_0 : decode cX8_remove 0 = .ok (.iload_n 1, 1) := by decide +kernel
theorem dX8_remove_1 : decode cX8_remove 1 = .ok (.iload_n 2, 1) := by decide +kernel
theorem dX8_remove_2 : decode cX8_remove 2 = .ok (.iload_n 3, 1) := by decide +kernel
theorem dX8_remove_3 : decode cX8_remove 3 = .ok (.iload 4, 2) := by decide +kernel
theorem dX8_remove_5 : decode cX8_remove 5 = .ok (.iload 5, 2) := by decide +kernel
theorem dX8_remove_7 : decode cX8_remove 7 = .ok (.invokestatic 173, 3) := by decide +kernel
theorem dX8_remove_10 : decode cX8_remove 10 = .ok (.ifCond .ne 5, 3) := by decide +kernel
theorem dX8_remove_13 : decode cX8_remove 13 = .ok (.iconst (-1), 1) := by decide +kernel
theorem dX8_remove_14 : decode cX8_remove 14 = .ok (.ireturn, 1) := by decide +kernel
theorem dX8_remove_15 : decode cX8_remove 15 = .ok (.aload_n 0, 1) := by decide +kernel
theorem dX8_remove_16 : decode cX8_remove 16 = .ok (.iload_n 1, 1) := by decide +kernel
theorem dX8_remove_17 : decode cX8_remove 17 = .ok (.iload_n 2, 1) := by decide +kernel
theorem dX8_remove_18 : decode cX8_remove 18 = .ok (.iload_n 3, 1) := by decide +kernel
theorem dX8_remove_19 : decode cX8_remove 19 = .ok (.iload 4, 2) := by decide +kernel
theorem dX8_remove_21 : decode cX8_remove 21 = .ok (.iload 5, 2) := by decide +kernel
theorem dX8_remove_23 : decode cX8_remove 23 = .ok (.invokevirtual 177, 3) := by decide +kernel
theorem dX8_remove_26 : decode cX8_remove 26 = .ok (.istore 6, 2) := by decide +kernel
theorem dX8_remove_28 : decode cX8_remove 28 = .ok (.iload 6, 2) := by decide +kernel
theorem dX8_remove_30 : decode cX8_remove 30 = .ok (.ifCond .ge 6, 3) := by decide +kernel
theorem dX8_remove_33 : decode cX8_remove 33 = .ok (.bipush (-2), 2) := by decide +kernel
theorem dX8_remove_35 : decode cX8_remove 35 = .ok (.ireturn, 1) := by decide +kernel
theorem dX8_remove_36 : decode cX8_remove 36 = .ok (.aload_n 0, 1) := by decide +kernel
theorem dX8_remove_37 : decode cX8_remove 37 = .ok (.iconst 0, 1) := by decide +kernel
theorem dX8_remove_38 : decode cX8_remove 38 = .ok (.putfield 184, 3) := by decide +kernel
theorem dX8_remove_41 : decode cX8_remove 41 = .ok (.aload_n 0, 1) := by decide +kernel
theorem dX8_remove_42 : decode cX8_remove 42 = .ok (.iload 6, 2) := by decide +kernel
theorem dX8_remove_44 : decode cX8_remove 44 = .ok (.invokevirtual 191, 3) := by decide +kernel
theorem dX8_remove_47 : decode cX8_remove 47 = .ok (.istore 7, 2) := by decide +kernel
theorem dX8_remove_49 : decode cX8_remove 49 = .ok (.aload_n 0, 1) := by decide +kernel
theorem dX8_remove_50 : decode cX8_remove 50 = .ok (.iload 7, 2) := by decide +kernel
theorem dX8_remove_52 : decode cX8_remove 52 = .ok (.iload 6, 2) := by decide +kernel
theorem dX8_remove_54 : decode cX8_remove 54 = .ok (.invokevirtual 194, 3) := by decide +kernel
theorem dX8_remove_57 : decode cX8_remove 57 = .ok (.aload_n 0, 1) := by decide +kernel
theorem dX8_remove_58 : decode cX8_remove 58 = .ok (.getfield 13, 3) := by decide +kernel
theorem dX8_remove_61 : decode cX8_remove 61 = .ok (.iload 6, 2) := by decide +kernel
theorem dX8_remove_63 : decode cX8_remove 63 = .ok (.bipush (-2), 2) := by decide +kernel
theorem dX8_remove_65 : decode cX8_remove 65 = .ok (.iastore, 1) := by decide +kernel
theorem dX8_remove_66 : decode cX8_remove 66 = .ok (.aload_n 0, 1) := by decide +kernel
theorem dX8_remove_67 : decode cX8_remove 67 = .ok (.dup, 1) := by decide +kernel
theorem dX8_remove_68 : decode cX8_remove 68 = .ok (.getfield 181, 3) := by decide +kernel
theorem dX8_remove_71 : decode cX8_remove 71 = .ok (.iconst 1, 1) := by decide +kernel
theorem dX8_remove_72 : decode cX8_remove 72 = .ok (.isub, 1) := by decide +kernel
theorem dX8_remove_73 : decode cX8_remove 73 = .ok (.putfield 181, 3) := by decide +kernel
theorem dX8_remove_76 : decode cX8_remove 76 = .ok (.aload_n 0, 1) := by decide +kernel
theorem dX8_remove_77 : decode cX8_remove 77 = .ok (.iconst 0, 1) := by decide +kernel
theorem dX8_remove_78 : decode cX8_remove 78 = .ok (.putfield 197, 3) := by decide +kernel
theorem dX8_remove_81 : decode cX8_remove 81 = .ok (.iload 7, 2) := by decide +kernel
theorem dX8_remove_83 : decode cX8_remove 83 = .ok (.ifCond .lt 144, 3) := by decide +kernel
theorem dX8_remove_86 : decode cX8_remove 86 = .ok (.aload_n 0, 1) := by decide +kernel
theorem dX8_remove_87 : decode cX8_remove 87 = .ok (.getfield 32, 3) := by decide +kernel
theorem dX8_remove_90 : decode cX8_remove 90 = .ok (.iload 7, 2) := by decide +kernel
theorem dX8_remove_92 : decode cX8_remove 92 = .ok (.iaload, 1) := by decide +kernel
theorem dX8_remove_93 : decode cX8_remove 93 = .ok (.istore 8, 2) := by decide +kernel
theorem dX8_remove_95 : decode cX8_remove 95 = .ok (.iload 7, 2) := by decide +kernel
theorem dX8_remove_97 : decode cX8_remove 97 = .ok (.aload_n 0, 1) := by decide +kernel
theorem dX8_remove_98 : decode cX8_remove 98 = .ok (.getfield 93, 3) := by decide +kernel
theorem dX8_remove_101 : decode cX8_remove 101 = .ok (.if_icmp .eq 113, 3) := by decide +kernel
theorem dX8_remove_104 : decode cX8_remove 104 = .ok (.aload_n 0, 1) := by decide +kernel
theorem dX8_remove_105 : decode cX8_remove 105 = .ok (.getfield 23, 3) := by decide +kernel
theorem dX8_remove_108 : decode cX8_remove 108 = .ok (.iload 7, 2) := by decide +kernel
theorem dX8_remove_110 : decode cX8_remove 110 = .ok (.iaload, 1) := by decide +kernel
theorem dX8_remove_111 : decode cX8_remove 111 = .ok (.aload_n 0, 1) := by decide +kernel
theorem dX8_remove_112 : decode cX8_remove 112 = .ok (.getfield 86, 3) := by decide +kernel
theorem dX8_remove_115 : decode cX8_remove 115 = .ok (.if_icmp .ge 99, 3) := by decide +kernel
theorem dX8_remove_118 : decode cX8_remove 118 = .ok (.iconst 0, 1) := by decide +kernel
theorem dX8_remove_119 : decode cX8_remove 119 = .ok (.istore 9, 2) := by decide +kernel
theorem dX8_remove_121 : decode cX8_remove 121 = .ok (.iload 9, 2) := by decide +kernel
theorem dX8_remove_123 : decode cX8_remove 123 = .ok (.aload_n 0, 1) := by decide +kernel
theorem dX8_remove_124 : decode cX8_remove 124 = .ok (.getfield 23, 3) := by decide +kernel
theorem dX8_remove_127 : decode cX8_remove 127 = .ok (.iload 7, 2) := by decide +kernel
theorem dX8_remove_129 : decode cX8_remove 129 = .ok (.iaload, 1) := by decide +kernel
theorem dX8_remove_130 : decode cX8_remove 130 = .ok (.if_icmp .ge 54, 3) := by decide +kernel
theorem dX8_remove_133 : decode cX8_remove 133 = .ok (.aload_n 0, 1) := by decide +kernel
theorem dX8_remove_134 : decode cX8_remove 134 = .ok (.getfield 35, 3) := by decide +kernel
theorem dX8_remove_137 : decode cX8_remove 137 = .ok (.aload_n 0, 1) := by decide +kernel
theorem dX8_remove_138 : decode cX8_remove 138 = .ok (.getfield 197, 3) := by decide +kernel
theorem dX8_remove_141 : decode cX8_remove 141 = .ok (.aload_n 0, 1) := by decide +kernel
theorem dX8_remove_142 : decode cX8_remove 142 = .ok (.iload 7, 2) := by decide +kernel
theorem dX8_remove_144 : decode cX8_remove 144 = .ok (.iload 9, 2) := by decide +kernel
theorem dX8_remove_146 : decode cX8_remove 146 = .ok (.invokevirtual 115, 3) := by decide +kernel
theorem dX8_remove_149 : decode cX8_remove 149 = .ok (.iastore, 1) := by decide +kernel
theorem dX8_remove_150 : decode cX8_remove 150 = .ok (.aload_n 0, 1) := by decide +kernel
theorem dX8_remove_151 : decode cX8_remove 151 = .ok (.getfield 38, 3) := by decide +kernel
theorem dX8_remove_154 : decode cX8_remove 154 = .ok (.aload_n 0, 1) := by decide +kernel
theorem dX8_remove_155 : decode cX8_remove 155 = .ok (.getfield 197, 3) := by decide +kernel
theorem dX8_remove_158 : decode cX8_remove 158 = .ok (.aload_n 0, 1) := by decide +kernel
theorem dX8_remove_159 : decode cX8_remove 159 = .ok (.getfield 20, 3) := by decide +kernel
theorem dX8_remove_162 : decode cX8_remove 162 = .ok (.iload 7, 2) := by decide +kernel
theorem dX8_remove_164 : decode cX8_remove 164 = .ok (.iaload, 1) := by decide +kernel
theorem dX8_remove_165 : decode cX8_remove 165 = .ok (.iconst 1, 1) := by decide +kernel
theorem dX8_remove_166 : decode cX8_remove 166 = .ok (.isub, 1) := by decide +kernel
theorem dX8_remove_167 : decode cX8_remove 167 = .ok (.iastore, 1) := by decide +kernel
theorem dX8_remove_168 : decode cX8_remove 168 = .ok (.aload_n 0, 1) := by decide +kernel
theorem dX8_remove_169 : decode cX8_remove 169 = .ok (.dup, 1) := by decide +kernel
theorem dX8_remove_170 : decode cX8_remove 170 = .ok (.getfield 197, 3) := by decide +kernel
theorem dX8_remove_173 : decode cX8_remove 173 = .ok (.iconst 1, 1) := by decide +kernel
theorem dX8_remove_174 : decode cX8_remove 174 = .ok (.iadd, 1) := by decide +kernel
theorem dX8_remove_175 : decode cX8_remove 175 = .ok (.putfield 197, 3) := by decide +kernel
theorem dX8_remove_178 : decode cX8_remove 178 = .ok (.iinc 9 1, 3) := by decide +kernel
theorem dX8_remove_181 : decode cX8_remove 181 = .ok (.goto (-60), 3) := by decide +kernel
theorem dX8_remove_184 : decode cX8_remove 184 = .ok (.aload_n 0, 1) := by decide +kernel
theorem dX8_remove_185 : decode cX8_remove 185 = .ok (.iload 8, 2) := by decide +kernel
theorem dX8_remove_187 : decode cX8_remove 187 = .ok (.iload 7, 2) := by decide +kernel
theorem dX8_remove_189 : decode cX8_remove 189 = .ok (.invokevirtual 194, 3) := by decide +kernel
theorem dX8_remove_192 : decode cX8_remove 192 = .ok (.aload_n 0, 1) := by decide +kernel
theorem dX8_remove_193 : decode cX8_remove 193 = .ok (.getfield 20, 3) := by decide +kernel
theorem dX8_remove_196 : decode cX8_remove 196 = .ok (.iload 7, 2) := by decide +kernel
theorem dX8_remove_198 : decode cX8_remove 198 = .ok (.bipush (-2), 2) := by decide +kernel
theorem dX8_remove_200 : decode cX8_remove 200 = .ok (.iastore, 1) := by decide +kernel
theorem dX8_remove_201 : decode cX8_remove 201 = .ok (.aload_n 0, 1) := by decide +kernel
theorem dX8_remove_202 : decode cX8_remove 202 = .ok (.dup, 1) := by decide +kernel
theorem dX8_remove_203 : decode cX8_remove 203 = .ok (.getfield 200, 3) := by decide +kernel
theorem dX8_remove_206 : decode cX8_remove 206 = .ok (.iconst 1, 1) := by decide +kernel
theorem dX8_remove_207 : decode cX8_remove 207 = .ok (.iadd, 1) := by decide +kernel
theorem dX8_remove_208 : decode cX8_remove 208 = .ok (.putfield 200, 3) := by decide +kernel
theorem dX8_remove_211 : decode cX8_remove 211 = .ok (.goto 9, 3) := by decide +kernel
theorem dX8_remove_214 : decode cX8_remove 214 = .ok (.aload_n 0, 1) := by decide +kernel
theorem dX8_remove_215 : decode cX8_remove 215 = .ok (.iload 7, 2) := by decide +kernel
theorem dX8_remove_217 : decode cX8_remove 217 = .ok (.invokevirtual 118, 3) := by decide +kernel
theorem dX8_remove_220 : decode cX8_remove 220 = .ok (.iload 8, 2) := by decide +kernel
theorem dX8_remove_222 : decode cX8_remove 222 = .ok (.istore 7, 2) := by decide +kernel
theorem dX8_remove_224 : decode cX8_remove 224 = .ok (.goto (-143), 3) := by decide +kernel
theorem dX8_remove_227 : decode cX8_remove 227 = .ok (.aload_n 0, 1) := by decide +kernel
theorem dX8_remove_228 : decode cX8_remove 228 = .ok (.dup, 1) := by decide +kernel
theorem dX8_remove_229 : decode cX8_remove 229 = .ok (.getfield 203, 3) := by decide +kernel
theorem dX8_remove_232 : decode cX8_remove 232 = .ok (.aload_n 0, 1) := by decide +kernel
theorem dX8_remove_233 : decode cX8_remove 233 = .ok (.getfield 197, 3) := by decide +kernel
theorem dX8_remove_236 : decode cX8_remove 236 = .ok (.iadd, 1) := by decide +kernel
theorem dX8_remove_237 : decode cX8_remove 237 = .ok (.putfield 203, 3) := by decide +kernel
theorem dX8_remove_240 : decode cX8_remove 240 = .ok (.iconst 0, 1) := by decide +kernel
theorem dX8_remove_241 : decode cX8_remove 241 = .ok (.istore 8, 2) := by decide +kernel
theorem dX8_remove_243 : decode cX8_remove 243 = .ok (.iload 8, 2) := by decide +kernel
theorem dX8_remove_245 : decode cX8_remove 245 = .ok (.aload_n 0, 1) := by decide +kernel
theorem dX8_remove_246 : decode cX8_remove 246 = .ok (.getfield 197, 3) := by decide +kernel
theorem dX8_remove_249 : decode cX8_remove 249 = .ok (.if_icmp .ge 27, 3) := by decide +kernel
theorem dX8_remove_252 : decode cX8_remove 252 = .ok (.aload_n 0, 1) := by decide +kernel
theorem dX8_remove_253 : decode cX8_remove 253 = .ok (.aload_n 0, 1) := by decide +kernel
theorem dX8_remove_254 : decode cX8_remove 254 = .ok (.getfield 38, 3) := by decide +kernel
theorem dX8_remove_257 : decode cX8_remove 257 = .ok (.iload 8, 2) := by decide +kernel
theorem dX8_remove_259 : decode cX8_remove 259 = .ok (.iaload, 1) := by decide +kernel
theorem dX8_remove_260 : decode cX8_remove 260 = .ok (.aload_n 0, 1) := by decide +kernel
theorem dX8_remove_261 : decode cX8_remove 261 = .ok (.getfield 35, 3) := by decide +kernel
theorem dX8_remove_264 : decode cX8_remove 264 = .ok (.iload 8, 2) := by decide +kernel
theorem dX8_remove_266 : decode cX8_remove 266 = .ok (.iaload, 1) := by decide +kernel
theorem dX8_remove_267 : decode cX8_remove 267 = .ok (.invokevirtual 188, 3) := by decide +kernel
theorem dX8_remove_270 : decode cX8_remove 270 = .ok (.iinc 8 1, 3) := by decide +kernel
theorem dX8_remove_273 : decode cX8_remove 273 = .ok (.goto (-30), 3) := by decide +kernel
theorem dX8_remove_276 : decode cX8_remove 276 = .ok (.aload_n 0, 1) := by decide +kernel
theorem dX8_remove_277 : decode cX8_remove 277 = .ok (.getfield 20, 3) := by decide +kernel
theorem dX8_remove_280 : decode cX8_remove 280 = .ok (.aload_n 0, 1) := by decide +kernel
theorem dX8_remove_281 : decode cX8_remove 281 = .ok (.getfield 93, 3) := by decide +kernel
theorem dX8_remove_284 : decode cX8_remove 284 = .ok (.iaload, 1) := by decide +kernel
theorem dX8_remove_285 : decode cX8_remove 285 = .ok (.ifCond .le 58, 3) := by decide +kernel
theorem dX8_remove_288 : decode cX8_remove 288 = .ok (.aload_n 0, 1) := by decide +kernel
theorem dX8_remove_289 : decode cX8_remove 289 = .ok (.getfield 23, 3) := by decide +kernel
theorem dX8_remove_292 : decode cX8_remove 292 = .ok (.aload_n 0, 1) := by decide +kernel
theorem dX8_remove_293 : decode cX8_remove 293 = .ok (.getfield 93, 3) := by decide +kernel
theorem dX8_remove_296 : decode cX8_remove 296 = .ok (.iaload, 1) := by decide +kernel
theorem dX8_remove_297 : decode cX8_remove 297 = .ok (.iconst 1, 1) := by decide +kernel
theorem dX8_remove_298 : decode cX8_remove 298 = .ok (.if_icmp .ne 45, 3) := by decide +kernel
theorem dX8_remove_301 : decode cX8_remove 301 = .ok (.aload_n 0, 1) := by decide +kernel
theorem dX8_remove_302 : decode cX8_remove 302 = .ok (.aload_n 0, 1) := by decide +kernel
theorem dX8_remove_303 : decode cX8_remove 303 = .ok (.getfield 93, 3) := by decide +kernel
theorem dX8_remove_306 : decode cX8_remove 306 = .ok (.iconst 0, 1) := by decide +kernel
theorem dX8_remove_307 : decode cX8_remove 307 = .ok (.invokevirtual 115, 3) := by decide +kernel
theorem dX8_remove_310 : decode cX8_remove 310 = .ok (.istore 8, 2) := by decide +kernel
theorem dX8_remove_312 : decode cX8_remove 312 = .ok (.aload_n 0, 1) := by decide +kernel
theorem dX8_remove_313 : decode cX8_remove 313 = .ok (.getfield 20, 3) := by decide +kernel
theorem dX8_remove_316 : decode cX8_remove 316 = .ok (.aload_n 0, 1) := by decide +kernel
theorem dX8_remove_317 : decode cX8_remove 317 = .ok (.getfield 93, 3) := by decide +kernel
theorem dX8_remove_320 : decode cX8_remove 320 = .ok (.bipush (-2), 2) := by decide +kernel
theorem dX8_remove_322 : decode cX8_remove 322 = .ok (.iastore, 1) := by decide +kernel
theorem dX8_remove_323 : decode cX8_remove 323 = .ok (.aload_n 0, 1) := by decide +kernel
theorem dX8_remove_324 : decode cX8_remove 324 = .ok (.iload 8, 2) := by decide +kernel
theorem dX8_remove_326 : decode cX8_remove 326 = .ok (.putfield 93, 3) := by decide +kernel
theorem dX8_remove_329 : decode cX8_remove 329 = .ok (.aload_n 0, 1) := by decide +kernel
theorem dX8_remove_330 : decode cX8_remove 330 = .ok (.getfield 32, 3) := by decide +kernel
theorem dX8_remove_333 : decode cX8_remove 333 = .ok (.aload_n 0, 1) := by decide +kernel
theorem dX8_remove_334 : decode cX8_remove 334 = .ok (.getfield 93, 3) := by decide +kernel
theorem dX8_remove_337 : decode cX8_remove 337 = .ok (.bipush (-2), 2) := by decide +kernel
theorem dX8_remove_339 : decode cX8_remove 339 = .ok (.iastore, 1) := by decide +kernel
theorem dX8_remove_340 : decode cX8_remove 340 = .ok (.goto (-64), 3) := by decide +kernel
theorem dX8_remove_343 : decode cX8_remove 343 = .ok (.aload_n 0, 1) := by decide +kernel
theorem dX8_remove_344 : decode cX8_remove 344 = .ok (.getfield 181, 3) := by decide +kernel
theorem dX8_remove_347 : decode cX8_remove 347 = .ok (.ireturn, 1) := by decide +kernel
theorem dX8_window_0 : decode cX8_window 0 = .ok (.iload_n 1, 1) := by decide +kernel
theorem dX8_window_1 : decode cX8_window 1 = .ok (.iload_n 2, 1) := by decide +kernel
theorem dX8_window_2 : decode cX8_window 2 = .ok (.iload_n 3, 1) := by decide +kernel
theorem dX8_window_3 : decode cX8_window 3 = .ok (.iload 4, 2) := by decide +kernel
theorem dX8_window_5 : decode cX8_window 5 = .ok (.invokestatic 169, 3) := by decide +kernel
theorem dX8_window_8 : decode cX8_window 8 = .ok (.ifCond .ne 5, 3) := by decide +kernel
theorem dX8_window_11 : decode cX8_window 11 = .ok (.iconst (-1), 1) := by decide +kernel
theorem dX8_window_12 : decode cX8_window 12 = .ok (.ireturn, 1) := by decide +kernel
theorem dX8_window_13 : decode cX8_window 13 = .ok (.aload_n 0, 1) := by decide +kernel
theorem dX8_window_14 : decode cX8_window 14 = .ok (.iconst 1, 1) := by decide +kernel
theorem dX8_window_15 : decode cX8_window 15 = .ok (.putfield 184, 3) := by decide +kernel
theorem dX8_window_18 : decode cX8_window 18 = .ok (.aload_n 0, 1) := by decide +kernel
theorem dX8_window_19 : decode cX8_window 19 = .ok (.iconst 0, 1) := by decide +kernel
theorem dX8_window_20 : decode cX8_window 20 = .ok (.putfield 206, 3) := by decide +kernel
theorem dX8_window_23 : decode cX8_window 23 = .ok (.aload_n 0, 1) := by decide +kernel
theorem dX8_window_24 : decode cX8_window 24 = .ok (.getfield 44, 3) := by decide +kernel
theorem dX8_window_27 : decode cX8_window 27 = .ok (.iconst 0, 1) := by decide +kernel
theorem dX8_window_28 : decode cX8_window 28 = .ok (.iload_n 1, 1) := by decide +kernel
theorem dX8_window_29 : decode cX8_window 29 = .ok (.iastore, 1) := by decide +kernel
theorem dX8_window_30 : decode cX8_window 30 = .ok (.aload_n 0, 1) := by decide +kernel
theorem dX8_window_31 : decode cX8_window 31 = .ok (.getfield 44, 3) := by decide +kernel
theorem dX8_window_34 : decode cX8_window 34 = .ok (.iconst 1, 1) := by decide +kernel
theorem dX8_window_35 : decode cX8_window 35 = .ok (.iload_n 2, 1) := by decide +kernel
theorem dX8_window_36 : decode cX8_window 36 = .ok (.iastore, 1) := by decide +kernel
theorem dX8_window_37 : decode cX8_window 37 = .ok (.aload_n 0, 1) := by decide +kernel
theorem dX8_window_38 : decode cX8_window 38 = .ok (.getfield 44, 3) := by decide +kernel
theorem dX8_window_41 : decode cX8_window 41 = .ok (.iconst 2, 1) := by decide +kernel
theorem dX8_window_42 : decode cX8_window 42 = .ok (.iload_n 3, 1) := by decide +kernel
theorem dX8_window_43 : decode cX8_window 43 = .ok (.iastore, 1) := by decide +kernel
theorem dX8_window_44 : decode cX8_window 44 = .ok (.aload_n 0, 1) := by decide +kernel
theorem dX8_window_45 : decode cX8_window 45 = .ok (.getfield 44, 3) := by decide +kernel
theorem dX8_window_48 : decode cX8_window 48 = .ok (.iconst 3, 1) := by decide +kernel
theorem dX8_window_49 : decode cX8_window 49 = .ok (.iload 4, 2) := by decide +kernel
theorem dX8_window_51 : decode cX8_window 51 = .ok (.iastore, 1) := by decide +kernel
theorem dX8_window_52 : decode cX8_window 52 = .ok (.aload_n 0, 1) := by decide +kernel
theorem dX8_window_53 : decode cX8_window 53 = .ok (.iconst 0, 1) := by decide +kernel
theorem dX8_window_54 : decode cX8_window 54 = .ok (.putfield 209, 3) := by decide +kernel
theorem dX8_window_57 : decode cX8_window 57 = .ok (.aload_n 0, 1) := by decide +kernel
theorem dX8_window_58 : decode cX8_window 58 = .ok (.iconst 0, 1) := by decide +kernel
theorem dX8_window_59 : decode cX8_window 59 = .ok (.putfield 212, 3) := by decide +kernel
theorem dX8_window_62 : decode cX8_window 62 = .ok (.iconst 0, 1) := by decide +kernel
theorem dX8_window_63 : decode cX8_window 63 = .ok (.ireturn, 1) := by decide +kernel
theorem dX8_enter_0 : decode cX8_enter 0 = .ok (.aload_n 0, 1) := by decide +kernel
theorem dX8_enter_1 : decode cX8_enter 1 = .ok (.getfield 47, 3) := by decide +kernel
theorem dX8_enter_4 : decode cX8_enter 4 = .ok (.aload_n 0, 1) := by decide +kernel
theorem dX8_enter_5 : decode cX8_enter 5 = .ok (.getfield 209, 3) := by decide +kernel
theorem dX8_enter_8 : decode cX8_enter 8 = .ok (.iload_n 1, 1) := by decide +kernel
theorem dX8_enter_9 : decode cX8_enter 9 = .ok (.iastore, 1) := by decide +kernel
theorem dX8_enter_10 : decode cX8_enter 10 = .ok (.aload_n 0, 1) := by decide +kernel
theorem dX8_enter_11 : decode cX8_enter 11 = .ok (.getfield 50, 3) := by decide +kernel
theorem dX8_enter_14 : decode cX8_enter 14 = .ok (.aload_n 0, 1) := by decide +kernel
theorem dX8_enter_15 : decode cX8_enter 15 = .ok (.getfield 209, 3) := by decide +kernel
theorem dX8_enter_18 : decode cX8_enter 18 = .ok (.iconst 0, 1) := by decide +kernel
theorem dX8_enter_19 : decode cX8_enter 19 = .ok (.iastore, 1) := by decide +kernel
theorem dX8_enter_20 : decode cX8_enter 20 = .ok (.aload_n 0, 1) := by decide +kernel
theorem dX8_enter_21 : decode cX8_enter 21 = .ok (.dup, 1) := by decide +kernel
theorem dX8_enter_22 : decode cX8_enter 22 = .ok (.getfield 209, 3) := by decide +kernel
theorem dX8_enter_25 : decode cX8_enter 25 = .ok (.iconst 1, 1) := by decide +kernel
theorem dX8_enter_26 : decode cX8_enter 26 = .ok (.iadd, 1) := by decide +kernel
theorem dX8_enter_27 : decode cX8_enter 27 = .ok (.putfield 209, 3) := by decide +kernel
theorem dX8_enter_30 : decode cX8_enter 30 = .ok (.aload_n 0, 1) := by decide +kernel
theorem dX8_enter_31 : decode cX8_enter 31 = .ok (.dup, 1) := by decide +kernel
theorem dX8_enter_32 : decode cX8_enter 32 = .ok (.getfield 212, 3) := by decide +kernel
theorem dX8_enter_35 : decode cX8_enter 35 = .ok (.iconst 1, 1) := by decide +kernel
theorem dX8_enter_36 : decode cX8_enter 36 = .ok (.iadd, 1) := by decide +kernel
theorem dX8_enter_37 : decode cX8_enter 37 = .ok (.putfield 212, 3) := by decide +kernel
theorem dX8_enter_40 : decode cX8_enter 40 = .ok (.return_, 1) := by decide +kernel
theorem dX8_next_0 : decode cX8_next 0 = .ok (.aload_n 0, 1) := by decide +kernel
theorem dX8_next_1 : decode cX8_next 1 = .ok (.getfield 184, 3) := by decide +kernel
theorem dX8_next_4 : decode cX8_next 4 = .ok (.ifCond .ne 5, 3) := by decide +kernel
theorem dX8_next_7 : decode cX8_next 7 = .ok (.iconst (-1), 1) := by decide +kernel
theorem dX8_next_8 : decode cX8_next 8 = .ok (.ireturn, 1) := by decide +kernel
theorem dX8_next_9 : decode cX8_next 9 = .ok (.aload_n 0, 1) := by decide +kernel
theorem dX8_next_10 : decode cX8_next 10 = .ok (.getfield 206, 3) := by decide +kernel
theorem dX8_next_13 : decode cX8_next 13 = .ok (.ifCond .ne 16, 3) := by decide +kernel
theorem dX8_next_16 : decode cX8_next 16 = .ok (.aload_n 0, 1) := by decide +kernel
theorem dX8_next_17 : decode cX8_next 17 = .ok (.iconst 1, 1) := by decide +kernel
theorem dX8_next_18 : decode cX8_next 18 = .ok (.putfield 206, 3) := by decide +kernel
theorem dX8_next_21 : decode cX8_next 21 = .ok (.aload_n 0, 1) := by decide +kernel
theorem dX8_next_22 : decode cX8_next 22 = .ok (.aload_n 0, 1) := by decide +kernel
theorem dX8_next_23 : decode cX8_next 23 = .ok (.getfield 93, 3) := by decide +kernel
theorem dX8_next_26 : decode cX8_next 26 = .ok (.invokevirtual 215, 3) := by decide +kernel
theorem dX8_next_29 : decode cX8_next 29 = .ok (.aload_n 0, 1) := by decide +kernel
theorem dX8_next_30 : decode cX8_next 30 = .ok (.getfield 209, 3) := by decide +kernel
theorem dX8_next_33 : decode cX8_next 33 = .ok (.ifCond .le 144, 3) := by decide +kernel
theorem dX8_next_36 : decode cX8_next 36 = .ok (.aload_n 0, 1) := by decide +kernel
theorem dX8_next_37 : decode cX8_next 37 = .ok (.getfield 47, 3) := by decide +kernel
theorem dX8_next_40 : decode cX8_next 40 = .ok (.aload_n 0, 1) := by decide +kernel
theorem dX8_next_41 : decode cX8_next 41 = .ok (.getfield 209, 3) := by decide +kernel
theorem dX8_next_44 : decode cX8_next 44 = .ok (.iconst 1, 1) := by decide +kernel
theorem dX8_next_45 : decode cX8_next 45 = .ok (.isub, 1) := by decide +kernel
theorem dX8_next_46 : decode cX8_next 46 = .ok (.iaload, 1) := by decide +kernel
theorem dX8_next_47 : decode cX8_next 47 = .ok (.istore_n 1, 1) := by decide +kernel
theorem dX8_next_48 : decode cX8_next 48 = .ok (.aload_n 0, 1) := by decide +kernel
theorem dX8_next_49 : decode cX8_next 49 = .ok (.getfield 50, 3) := by decide +kernel
theorem dX8_next_52 : decode cX8_next 52 = .ok (.aload_n 0, 1) := by decide +kernel
theorem dX8_next_53 : decode cX8_next 53 = .ok (.getfield 209, 3) := by decide +kernel
theorem dX8_next_56 : decode cX8_next 56 = .ok (.iconst 1, 1) := by decide +kernel
theorem dX8_next_57 : decode cX8_next 57 = .ok (.isub, 1) := by decide +kernel
theorem dX8_next_58 : decode cX8_next 58 = .ok (.iaload, 1) := by decide +kernel
theorem dX8_next_59 : decode cX8_next 59 = .ok (.aload_n 0, 1) := by decide +kernel
theorem dX8_next_60 : decode cX8_next 60 = .ok (.getfield 23, 3) := by decide +kernel
theorem dX8_next_63 : decode cX8_next 63 = .ok (.iload_n 1, 1) := by decide +kernel
theorem dX8_next_64 : decode cX8_next 64 = .ok (.iaload, 1) := by decide +kernel
theorem dX8_next_65 : decode cX8_next 65 = .ok (.if_icmp .ne 16, 3) := by decide +kernel
theorem dX8_next_68 : decode cX8_next 68 = .ok (.aload_n 0, 1) := by decide +kernel
theorem dX8_next_69 : decode cX8_next 69 = .ok (.dup, 1) := by decide +kernel
theorem dX8_next_70 : decode cX8_next 70 = .ok (.getfield 209, 3) := by decide +kernel
theorem dX8_next_73 : decode cX8_next 73 = .ok (.iconst 1, 1) := by decide +kernel
theorem dX8_next_74 : decode cX8_next 74 = .ok (.isub, 1) := by decide +kernel
theorem dX8_next_75 : decode cX8_next 75 = .ok (.putfield 209, 3) := by decide +kernel
theorem dX8_next_78 : decode cX8_next 78 = .ok (.goto 96, 3) := by decide +kernel
theorem dX8_next_81 : decode cX8_next 81 = .ok (.aload_n 0, 1) := by decide +kernel
theorem dX8_next_82 : decode cX8_next 82 = .ok (.iload_n 1, 1) := by decide +kernel
theorem dX8_next_83 : decode cX8_next 83 = .ok (.aload_n 0, 1) := by decide +kernel
theorem dX8_next_84 : decode cX8_next 84 = .ok (.getfield 50, 3) := by decide +kernel
theorem dX8_next_87 : decode cX8_next 87 = .ok (.aload_n 0, 1) := by decide +kernel
theorem dX8_next_88 : decode cX8_next 88 = .ok (.getfield 209, 3) := by decide +kernel
theorem dX8_next_91 : decode cX8_next 91 = .ok (.iconst 1, 1) := by decide +kernel
theorem dX8_next_92 : decode cX8_next 92 = .ok (.isub, 1) := by decide +kernel
theorem dX8_next_93 : decode cX8_next 93 = .ok (.iaload, 1) := by decide +kernel
theorem dX8_next_94 : decode cX8_next 94 = .ok (.invokevirtual 115, 3) := by decide +kernel
theorem dX8_next_97 : decode cX8_next 97 = .ok (.istore_n 2, 1) := by decide +kernel
theorem dX8_next_98 : decode cX8_next 98 = .ok (.aload_n 0, 1) := by decide +kernel
theorem dX8_next_99 : decode cX8_next 99 = .ok (.getfield 50, 3) := by decide +kernel
theorem dX8_next_102 : decode cX8_next 102 = .ok (.aload_n 0, 1) := by decide +kernel
theorem dX8_next_103 : decode cX8_next 103 = .ok (.getfield 209, 3) := by decide +kernel
theorem dX8_next_106 : decode cX8_next 106 = .ok (.iconst 1, 1) := by decide +kernel
theorem dX8_next_107 : decode cX8_next 107 = .ok (.isub, 1) := by decide +kernel
theorem dX8_next_108 : decode cX8_next 108 = .ok (.dup2, 1) := by decide +kernel
theorem dX8_next_109 : decode cX8_next 109 = .ok (.iaload, 1) := by decide +kernel
theorem dX8_next_110 : decode cX8_next 110 = .ok (.iconst 1, 1) := by decide +kernel
theorem dX8_next_111 : decode cX8_next 111 = .ok (.iadd, 1) := by decide +kernel
theorem dX8_next_112 : decode cX8_next 112 = .ok (.iastore, 1) := by decide +kernel
theorem dX8_next_113 : decode cX8_next 113 = .ok (.aload_n 0, 1) := by decide +kernel
theorem dX8_next_114 : decode cX8_next 114 = .ok (.aload_n 0, 1) := by decide +kernel
theorem dX8_next_115 : decode cX8_next 115 = .ok (.getfield 20, 3) := by decide +kernel
theorem dX8_next_118 : decode cX8_next 118 = .ok (.iload_n 1, 1) := by decide +kernel
theorem dX8_next_119 : decode cX8_next 119 = .ok (.iaload, 1) := by decide +kernel
theorem dX8_next_120 : decode cX8_next 120 = .ok (.iconst 1, 1) := by decide +kernel
theorem dX8_next_121 : decode cX8_next 121 = .ok (.isub, 1) := by decide +kernel
theorem dX8_next_122 : decode cX8_next 122 = .ok (.iload_n 2, 1) := by decide +kernel
theorem dX8_next_123 : decode cX8_next 123 = .ok (.aload_n 0, 1) := by decide +kernel
theorem dX8_next_124 : decode cX8_next 124 = .ok (.getfield 44, 3) := by decide +kernel
theorem dX8_next_127 : decode cX8_next 127 = .ok (.iconst 0, 1) := by decide +kernel
theorem dX8_next_128 : decode cX8_next 128 = .ok (.iaload, 1) := by decide +kernel
theorem dX8_next_129 : decode cX8_next 129 = .ok (.aload_n 0, 1) := by decide +kernel
theorem dX8_next_130 : decode cX8_next 130 = .ok (.getfield 44, 3) := by decide +kernel
theorem dX8_next_133 : decode cX8_next 133 = .ok (.iconst 1, 1) := by decide +kernel
theorem dX8_next_134 : decode cX8_next 134 = .ok (.iaload, 1) := by decide +kernel
theorem dX8_next_135 : decode cX8_next 135 = .ok (.aload_n 0, 1) := by decide +kernel
theorem dX8_next_136 : decode cX8_next 136 = .ok (.getfield 44, 3) := by decide +kernel
theorem dX8_next_139 : decode cX8_next 139 = .ok (.iconst 2, 1) := by decide +kernel
theorem dX8_next_140 : decode cX8_next 140 = .ok (.iaload, 1) := by decide +kernel
theorem dX8_next_141 : decode cX8_next 141 = .ok (.aload_n 0, 1) := by decide +kernel
theorem dX8_next_142 : decode cX8_next 142 = .ok (.getfield 44, 3) := by decide +kernel
theorem dX8_next_145 : decode cX8_next 145 = .ok (.iconst 3, 1) := by decide +kernel
theorem dX8_next_146 : decode cX8_next 146 = .ok (.iaload, 1) := by decide +kernel
theorem dX8_next_147 : decode cX8_next 147 = .ok (.invokevirtual 218, 3) := by decide +kernel
theorem dX8_next_150 : decode cX8_next 150 = .ok (.ifCond .eq 24, 3) := by decide +kernel
theorem dX8_next_153 : decode cX8_next 153 = .ok (.aload_n 0, 1) := by decide +kernel
theorem dX8_next_154 : decode cX8_next 154 = .ok (.getfield 20, 3) := by decide +kernel
theorem dX8_next_157 : decode cX8_next 157 = .ok (.iload_n 1, 1) := by decide +kernel
theorem dX8_next_158 : decode cX8_next 158 = .ok (.iaload, 1) := by decide +kernel
theorem dX8_next_159 : decode cX8_next 159 = .ok (.ifCond .ne 10, 3) := by decide +kernel
theorem dX8_next_162 : decode cX8_next 162 = .ok (.aload_n 0, 1) := by decide +kernel
theorem dX8_next_163 : decode cX8_next 163 = .ok (.getfield 13, 3) := by decide +kernel
theorem dX8_next_166 : decode cX8_next 166 = .ok (.iload_n 2, 1) := by decide +kernel
theorem dX8_next_167 : decode cX8_next 167 = .ok (.iaload, 1) := by decide +kernel
theorem dX8_next_168 : decode cX8_next 168 = .ok (.ireturn, 1) := by decide +kernel
theorem dX8_next_169 : decode cX8_next 169 = .ok (.aload_n 0, 1) := by decide +kernel
theorem dX8_next_170 : decode cX8_next 170 = .ok (.iload_n 2, 1) := by decide +kernel
theorem dX8_next_171 : decode cX8_next 171 = .ok (.invokevirtual 215, 3) := by decide +kernel
theorem dX8_next_174 : decode cX8_next 174 = .ok (.goto (-145), 3) := by decide +kernel
theorem dX8_next_177 : decode cX8_next 177 = .ok (.bipush (-2), 2) := by decide +kernel
theorem dX8_next_179 : decode cX8_next 179 = .ok (.ireturn, 1) := by decide +kernel
theorem dX8_countIn_0 : decode cX8_countIn 0 = .ok (.iload_n 1, 1) := by decide +kernel
theorem dX8_countIn_1 : decode cX8_countIn 1 = .ok (.iload_n 2, 1) := by decide +kernel
theorem dX8_countIn_2 : decode cX8_countIn 2 = .ok (.iload_n 3, 1) := by decide +kernel
theorem dX8_countIn_3 : decode cX8_countIn 3 = .ok (.iload 4, 2) := by decide +kernel
theorem dX8_countIn_5 : decode cX8_countIn 5 = .ok (.invokestatic 169, 3) := by decide +kernel
theorem dX8_countIn_8 : decode cX8_countIn 8 = .ok (.ifCond .ne 5, 3) := by decide +kernel
theorem dX8_countIn_11 : decode cX8_countIn 11 = .ok (.iconst (-1), 1) := by decide +kernel
theorem dX8_countIn_12 : decode cX8_countIn 12 = .ok (.ireturn, 1) := by decide +kernel
theorem dX8_countIn_13 : decode cX8_countIn 13 = .ok (.iconst 0, 1) := by decide +kernel
theorem dX8_countIn_14 : decode cX8_countIn 14 = .ok (.istore 5, 2) := by decide +kernel
theorem dX8_countIn_16 : decode cX8_countIn 16 = .ok (.iconst 0, 1) := by decide +kernel
theorem dX8_countIn_17 : decode cX8_countIn 17 = .ok (.istore 6, 2) := by decide +kernel
theorem dX8_countIn_19 : decode cX8_countIn 19 = .ok (.iload 6, 2) := by decide +kernel
theorem dX8_countIn_21 : decode cX8_countIn 21 = .ok (.sipush 400, 3) := by decide +kernel
theorem dX8_countIn_24 : decode cX8_countIn 24 = .ok (.if_icmp .ge 44, 3) := by decide +kernel
theorem dX8_countIn_27 : decode cX8_countIn 27 = .ok (.iload 5, 2) := by decide +kernel
theorem dX8_countIn_29 : decode cX8_countIn 29 = .ok (.aload_n 0, 1) := by decide +kernel
theorem dX8_countIn_30 : decode cX8_countIn 30 = .ok (.getfield 13, 3) := by decide +kernel
theorem dX8_countIn_33 : decode cX8_countIn 33 = .ok (.iload 6, 2) := by decide +kernel
theorem dX8_countIn_35 : decode cX8_countIn 35 = .ok (.iaload, 1) := by decide +kernel
theorem dX8_countIn_36 : decode cX8_countIn 36 = .ok (.ifCond .lt 22, 3) := by decide +kernel
theorem dX8_countIn_39 : decode cX8_countIn 39 = .ok (.aload_n 0, 1) := by decide +kernel
theorem dX8_countIn_40 : decode cX8_countIn 40 = .ok (.iconst (-1), 1) := by decide +kernel
theorem dX8_countIn_41 : decode cX8_countIn 41 = .ok (.iload 6, 2) := by decide +kernel
theorem dX8_countIn_43 : decode cX8_countIn 43 = .ok (.iload_n 1, 1) := by decide +kernel
theorem dX8_countIn_44 : decode cX8_countIn 44 = .ok (.iload_n 2, 1) := by decide +kernel
theorem dX8_countIn_45 : decode cX8_countIn 45 = .ok (.iload_n 3, 1) := by decide +kernel
theorem dX8_countIn_46 : decode cX8_countIn 46 = .ok (.iload 4, 2) := by decide +kernel
theorem dX8_countIn_48 : decode cX8_countIn 48 = .ok (.invokevirtual 218, 3) := by decide +kernel
theorem dX8_countIn_51 : decode cX8_countIn 51 = .ok (.ifCond .eq 7, 3) := by decide +kernel
theorem dX8_countIn_54 : decode cX8_countIn 54 = .ok (.iconst 1, 1) := by decide +kernel
theorem dX8_countIn_55 : decode cX8_countIn 55 = .ok (.goto 4, 3) := by decide +kernel
theorem dX8_countIn_58 : decode cX8_countIn 58 = .ok (.iconst 0, 1) := by decide +kernel
theorem dX8_countIn_59 : decode cX8_countIn 59 = .ok (.iadd, 1) := by decide +kernel
theorem dX8_countIn_60 : decode cX8_countIn 60 = .ok (.istore 5, 2) := by decide +kernel
theorem dX8_countIn_62 : decode cX8_countIn 62 = .ok (.iinc 6 1, 3) := by decide +kernel
theorem dX8_countIn_65 : decode cX8_countIn 65 = .ok (.goto (-46), 3) := by decide +kernel
theorem dX8_countIn_68 : decode cX8_countIn 68 = .ok (.iload 5, 2) := by decide +kernel
theorem dX8_countIn_70 : decode cX8_countIn 70 = .ok (.ireturn, 1) := by decide +kernel
theorem dX8_findOrder_0 : decode cX8_findOrder 0 = .ok (.aload_n 0, 1) := by decide +kernel
theorem dX8_findOrder_1 : decode cX8_findOrder 1 = .ok (.iconst 0, 1) := by decide +kernel
theorem dX8_findOrder_2 : decode cX8_findOrder 2 = .ok (.putfield 222, 3) := by decide +kernel
theorem dX8_findOrder_5 : decode cX8_findOrder 5 = .ok (.aload_n 0, 1) := by decide +kernel
theorem dX8_findOrder_6 : decode cX8_findOrder 6 = .ok (.aload_n 0, 1) := by decide +kernel
theorem dX8_findOrder_7 : decode cX8_findOrder 7 = .ok (.getfield 93, 3) := by decide +kernel
theorem dX8_findOrder_10 : decode cX8_findOrder 10 = .ok (.invokevirtual 225, 3) := by decide +kernel
theorem dX8_findOrder_13 : decode cX8_findOrder 13 = .ok (.iconst 0, 1) := by decide +kernel
theorem dX8_findOrder_14 : decode cX8_findOrder 14 = .ok (.istore_n 1, 1) := by decide +kernel
theorem dX8_findOrder_15 : decode cX8_findOrder 15 = .ok (.iload_n 1, 1) := by decide +kernel
theorem dX8_findOrder_16 : decode cX8_findOrder 16 = .ok (.aload_n 0, 1) := by decide +kernel
theorem dX8_findOrder_17 : decode cX8_findOrder 17 = .ok (.getfield 222, 3) := by decide +kernel
theorem dX8_findOrder_20 : decode cX8_findOrder 20 = .ok (.if_icmp .ge 21, 3) := by decide +kernel
theorem dX8_findOrder_23 : decode cX8_findOrder 23 = .ok (.aload_n 0, 1) := by decide +kernel
theorem dX8_findOrder_24 : decode cX8_findOrder 24 = .ok (.getfield 74, 3) := by decide +kernel
theorem dX8_findOrder_27 : decode cX8_findOrder 27 = .ok (.aload_n 0, 1) := by decide +kernel
theorem dX8_findOrder_28 : decode cX8_findOrder 28 = .ok (.getfield 41, 3) := by decide +kernel
theorem dX8_findOrder_31 : decode cX8_findOrder 31 = .ok (.iload_n 1, 1) := by decide +kernel
theorem dX8_findOrder_32 : decode cX8_findOrder 32 = .ok (.iaload, 1) := by decide +kernel
theorem dX8_findOrder_33 : decode cX8_findOrder 33 = .ok (.iload_n 1, 1) := by decide +kernel
theorem dX8_findOrder_34 : decode cX8_findOrder 34 = .ok (.iastore, 1) := by decide +kernel
theorem dX8_findOrder_35 : decode cX8_findOrder 35 = .ok (.iinc 1 1, 3) := by decide +kernel
theorem dX8_findOrder_38 : decode cX8_findOrder 38 = .ok (.goto (-23), 3) := by decide +kernel
theorem dX8_findOrder_41 : decode cX8_findOrder 41 = .ok (.return_, 1) := by decide +kernel
theorem dX8_walk_0 : decode cX8_walk 0 = .ok (.aload_n 0, 1) := by decide +kernel
theorem dX8_walk_1 : decode cX8_walk 1 = .ok (.getfield 41, 3) := by decide +kernel
theorem dX8_walk_4 : decode cX8_walk 4 = .ok (.aload_n 0, 1) := by decide +kernel
theorem dX8_walk_5 : decode cX8_walk 5 = .ok (.getfield 222, 3) := by decide +kernel
theorem dX8_walk_8 : decode cX8_walk 8 = .ok (.iload_n 1, 1) := by decide +kernel
theorem dX8_walk_9 : decode cX8_walk 9 = .ok (.iastore, 1) := by decide +kernel
theorem dX8_walk_10 : decode cX8_walk 10 = .ok (.aload_n 0, 1) := by decide +kernel
theorem dX8_walk_11 : decode cX8_walk 11 = .ok (.dup, 1) := by decide +kernel
theorem dX8_walk_12 : decode cX8_walk 12 = .ok (.getfield 222, 3) := by decide +kernel
theorem dX8_walk_15 : decode cX8_walk 15 = .ok (.iconst 1, 1) := by decide +kernel
theorem dX8_walk_16 : decode cX8_walk 16 = .ok (.iadd, 1) := by decide +kernel
theorem dX8_walk_17 : decode cX8_walk 17 = .ok (.putfield 222, 3) := by decide +kernel
theorem dX8_walk_20 : decode cX8_walk 20 = .ok (.iconst 0, 1) := by decide +kernel
theorem dX8_walk_21 : decode cX8_walk 21 = .ok (.istore_n 2, 1) := by decide +kernel
theorem dX8_walk_22 : decode cX8_walk 22 = .ok (.aload_n 0, 1) := by decide +kernel
theorem dX8_walk_23 : decode cX8_walk 23 = .ok (.getfield 20, 3) := by decide +kernel
theorem dX8_walk_26 : decode cX8_walk 26 = .ok (.iload_n 1, 1) := by decide +kernel
theorem dX8_walk_27 : decode cX8_walk 27 = .ok (.iaload, 1) := by decide +kernel
theorem dX8_walk_28 : decode cX8_walk 28 = .ok (.ifCond .le 29, 3) := by decide +kernel
theorem dX8_walk_31 : decode cX8_walk 31 = .ok (.iload_n 2, 1) := by decide +kernel
theorem dX8_walk_32 : decode cX8_walk 32 = .ok (.aload_n 0, 1) := by decide +kernel
theorem dX8_walk_33 : decode cX8_walk 33 = .ok (.getfield 23, 3) := by decide +kernel
theorem dX8_walk_36 : decode cX8_walk 36 = .ok (.iload_n 1, 1) := by decide +kernel
theorem dX8_walk_37 : decode cX8_walk 37 = .ok (.iaload, 1) := by decide +kernel
theorem dX8_walk_38 : decode cX8_walk 38 = .ok (.if_icmp .ge 19, 3) := by decide +kernel
theorem dX8_walk_41 : decode cX8_walk 41 = .ok (.aload_n 0, 1) := by decide +kernel
theorem dX8_walk_42 : decode cX8_walk 42 = .ok (.aload_n 0, 1) := by decide +kernel
theorem dX8_walk_43 : decode cX8_walk 43 = .ok (.iload_n 1, 1) := by decide +kernel
theorem dX8_walk_44 : decode cX8_walk 44 = .ok (.iload_n 2, 1) := by decide +kernel
theorem dX8_walk_45 : decode cX8_walk 45 = .ok (.invokevirtual 115, 3) := by decide +kernel
theorem dX8_walk_48 : decode cX8_walk 48 = .ok (.invokevirtual 225, 3) := by decide +kernel
theorem dX8_walk_51 : decode cX8_walk 51 = .ok (.iinc 2 1, 3) := by decide +kernel
theorem dX8_walk_54 : decode cX8_walk 54 = .ok (.goto (-32), 3) := by decide +kernel
theorem dX8_walk_57 : decode cX8_walk 57 = .ok (.return_, 1) := by decide +kernel
theorem dX8_far_0 : decode cX8_far 0 = .ok (.iload_n 3, 1) := by decide +kernel
theorem dX8_far_1 : decode cX8_far 1 = .ok (.aload_n 0, 1) := by decide +kernel
theorem dX8_far_2 : decode cX8_far 2 = .ok (.iload_n 1, 1) := by decide +kernel
theorem dX8_far_3 : decode cX8_far 3 = .ok (.iload_n 2, 1) := by decide +kernel
theorem dX8_far_4 : decode cX8_far 4 = .ok (.iconst 0, 1) := by decide +kernel
theorem dX8_far_5 : decode cX8_far 5 = .ok (.invokevirtual 96, 3) := by decide +kernel
theorem dX8_far_8 : decode cX8_far 8 = .ok (.if_icmp .ge 16, 3) := by decide +kernel
theorem dX8_far_11 : decode cX8_far 11 = .ok (.aload_n 0, 1) := by decide +kernel
theorem dX8_far_12 : decode cX8_far 12 = .ok (.iload_n 1, 1) := by decide +kernel
theorem dX8_far_13 : decode cX8_far 13 = .ok (.iload_n 2, 1) := by decide +kernel
theorem dX8_far_14 : decode cX8_far 14 = .ok (.iconst 0, 1) := by decide +kernel
theorem dX8_far_15 : decode cX8_far 15 = .ok (.invokevirtual 96, 3) := by decide +kernel
theorem dX8_far_18 : decode cX8_far 18 = .ok (.iload_n 3, 1) := by decide +kernel
theorem dX8_far_19 : decode cX8_far 19 = .ok (.isub, 1) := by decide +kernel
theorem dX8_far_20 : decode cX8_far 20 = .ok (.i2l, 1) := by decide +kernel
theorem dX8_far_21 : decode cX8_far 21 = .ok (.goto 28, 3) := by decide +kernel
theorem dX8_far_24 : decode cX8_far 24 = .ok (.iload_n 3, 1) := by decide +kernel
theorem dX8_far_25 : decode cX8_far 25 = .ok (.aload_n 0, 1) := by decide +kernel
theorem dX8_far_26 : decode cX8_far 26 = .ok (.iload_n 1, 1) := by decide +kernel
theorem dX8_far_27 : decode cX8_far 27 = .ok (.iload_n 2, 1) := by decide +kernel
theorem dX8_far_28 : decode cX8_far 28 = .ok (.iconst 2, 1) := by decide +kernel
theorem dX8_far_29 : decode cX8_far 29 = .ok (.invokevirtual 96, 3) := by decide +kernel
theorem dX8_far_32 : decode cX8_far 32 = .ok (.if_icmp .le 16, 3) := by decide +kernel
theorem dX8_far_35 : decode cX8_far 35 = .ok (.iload_n 3, 1) := by decide +kernel
theorem dX8_far_36 : decode cX8_far 36 = .ok (.aload_n 0, 1) := by decide +kernel
theorem dX8_far_37 : decode cX8_far 37 = .ok (.iload_n 1, 1) := by decide +kernel
theorem dX8_far_38 : decode cX8_far 38 = .ok (.iload_n 2, 1) := by decide +kernel
theorem dX8_far_39 : decode cX8_far 39 = .ok (.iconst 2, 1) := by decide +kernel
theorem dX8_far_40 : decode cX8_far 40 = .ok (.invokevirtual 96, 3) := by decide +kernel
theorem dX8_far_43 : decode cX8_far 43 = .ok (.isub, 1) := by decide +kernel
theorem dX8_far_44 : decode cX8_far 44 = .ok (.i2l, 1) := by decide +kernel
theorem dX8_far_45 : decode cX8_far 45 = .ok (.goto 4, 3) := by decide +kernel
theorem dX8_far_48 : decode cX8_far 48 = .ok (.lconst 0, 1) := by decide +kernel
theorem dX8_far_49 : decode cX8_far 49 = .ok (.lstore 5, 2) := by decide +kernel
theorem dX8_far_51 : decode cX8_far 51 = .ok (.iload 4, 2) := by decide +kernel
theorem dX8_far_53 : decode cX8_far 53 = .ok (.aload_n 0, 1) := by decide +kernel
theorem dX8_far_54 : decode cX8_far 54 = .ok (.iload_n 1, 1) := by decide +kernel
theorem dX8_far_55 : decode cX8_far 55 = .ok (.iload_n 2, 1) := by decide +kernel
theorem dX8_far_56 : decode cX8_far 56 = .ok (.iconst 1, 1) := by decide +kernel
theorem dX8_far_57 : decode cX8_far 57 = .ok (.invokevirtual 96, 3) := by decide +kernel
theorem dX8_far_60 : decode cX8_far 60 = .ok (.if_icmp .ge 17, 3) := by decide +kernel
theorem dX8_far_63 : decode cX8_far 63 = .ok (.aload_n 0, 1) := by decide +kernel
theorem dX8_far_64 : decode cX8_far 64 = .ok (.iload_n 1, 1) := by decide +kernel
theorem dX8_far_65 : decode cX8_far 65 = .ok (.iload_n 2, 1) := by decide +kernel
theorem dX8_far_66 : decode cX8_far 66 = .ok (.iconst 1, 1) := by decide +kernel
theorem dX8_far_67 : decode cX8_far 67 = .ok (.invokevirtual 96, 3) := by decide +kernel
theorem dX8_far_70 : decode cX8_far 70 = .ok (.iload 4, 2) := by decide +kernel
theorem dX8_far_72 : decode cX8_far 72 = .ok (.isub, 1) := by decide +kernel
theorem dX8_far_73 : decode cX8_far 73 = .ok (.i2l, 1) := by decide +kernel
theorem dX8_far_74 : decode cX8_far 74 = .ok (.goto 30, 3) := by decide +kernel
theorem dX8_far_77 : decode cX8_far 77 = .ok (.iload 4, 2) := by decide +kernel
theorem dX8_far_79 : decode cX8_far 79 = .ok (.aload_n 0, 1) := by decide +kernel
theorem dX8_far_80 : decode cX8_far 80 = .ok (.iload_n 1, 1) := by decide +kernel
theorem dX8_far_81 : decode cX8_far 81 = .ok (.iload_n 2, 1) := by decide +kernel
theorem dX8_far_82 : decode cX8_far 82 = .ok (.iconst 3, 1) := by decide +kernel
theorem dX8_far_83 : decode cX8_far 83 = .ok (.invokevirtual 96, 3) := by decide +kernel
theorem dX8_far_86 : decode cX8_far 86 = .ok (.if_icmp .le 17, 3) := by decide +kernel
theorem dX8_far_89 : decode cX8_far 89 = .ok (.iload 4, 2) := by decide +kernel
theorem dX8_far_91 : decode cX8_far 91 = .ok (.aload_n 0, 1) := by decide +kernel
theorem dX8_far_92 : decode cX8_far 92 = .ok (.iload_n 1, 1) := by decide +kernel
theorem dX8_far_93 : decode cX8_far 93 = .ok (.iload_n 2, 1) := by decide +kernel
theorem dX8_far_94 : decode cX8_far 94 = .ok (.iconst 3, 1) := by decide +kernel
theorem dX8_far_95 : decode cX8_far 95 = .ok (.invokevirtual 96, 3) := by decide +kernel
theorem dX8_far_98 : decode cX8_far 98 = .ok (.isub, 1) := by decide +kernel
theorem dX8_far_99 : decode cX8_far 99 = .ok (.i2l, 1) := by decide +kernel
theorem dX8_far_100 : decode cX8_far 100 = .ok (.goto 4, 3) := by decide +kernel
theorem dX8_far_103 : decode cX8_far 103 = .ok (.lconst 0, 1) := by decide +kernel
theorem dX8_far_104 : decode cX8_far 104 = .ok (.lstore 7, 2) := by decide +kernel
theorem dX8_far_106 : decode cX8_far 106 = .ok (.lload 5, 2) := by decide +kernel
theorem dX8_far_108 : decode cX8_far 108 = .ok (.lload 5, 2) := by decide +kernel
theorem dX8_far_110 : decode cX8_far 110 = .ok (.lmul, 1) := by decide +kernel
theorem dX8_far_111 : decode cX8_far 111 = .ok (.lload 7, 2) := by decide +kernel
theorem dX8_far_113 : decode cX8_far 113 = .ok (.lload 7, 2) := by decide +kernel
theorem dX8_far_115 : decode cX8_far 115 = .ok (.lmul, 1) := by decide +kernel
theorem dX8_far_116 : decode cX8_far 116 = .ok (.ladd, 1) := by decide +kernel
theorem dX8_far_117 : decode cX8_far 117 = .ok (.lreturn, 1) := by decide +kernel
theorem dX8_isBefore_0 : decode cX8_isBefore 0 = .ok (.aload_n 0, 1) := by decide +kernel
theorem dX8_isBefore_1 : decode cX8_isBefore 1 = .ok (.getfield 13, 3) := by decide +kernel
theorem dX8_isBefore_4 : decode cX8_isBefore 4 = .ok (.iload_n 1, 1) := by decide +kernel
theorem dX8_isBefore_5 : decode cX8_isBefore 5 = .ok (.iaload, 1) := by decide +kernel
theorem dX8_isBefore_6 : decode cX8_isBefore 6 = .ok (.aload_n 0, 1) := by decide +kernel
theorem dX8_isBefore_7 : decode cX8_isBefore 7 = .ok (.getfield 13, 3) := by decide +kernel
theorem dX8_isBefore_10 : decode cX8_isBefore 10 = .ok (.iload_n 2, 1) := by decide +kernel
theorem dX8_isBefore_11 : decode cX8_isBefore 11 = .ok (.iaload, 1) := by decide +kernel
theorem dX8_isBefore_12 : decode cX8_isBefore 12 = .ok (.if_icmp .eq 24, 3) := by decide +kernel
theorem dX8_isBefore_15 : decode cX8_isBefore 15 = .ok (.aload_n 0, 1) := by decide +kernel
theorem dX8_isBefore_16 : decode cX8_isBefore 16 = .ok (.getfield 13, 3) := by decide +kernel
theorem dX8_isBefore_19 : decode cX8_isBefore 19 = .ok (.iload_n 1, 1) := by decide +kernel
theorem dX8_isBefore_20 : decode cX8_isBefore 20 = .ok (.iaload, 1) := by decide +kernel
theorem dX8_isBefore_21 : decode cX8_isBefore 21 = .ok (.aload_n 0, 1) := by decide +kernel
theorem dX8_isBefore_22 : decode cX8_isBefore 22 = .ok (.getfield 13, 3) := by decide +kernel
theorem dX8_isBefore_25 : decode cX8_isBefore 25 = .ok (.iload_n 2, 1) := by decide +kernel
theorem dX8_isBefore_26 : decode cX8_isBefore 26 = .ok (.iaload, 1) := by decide +kernel
theorem dX8_isBefore_27 : decode cX8_isBefore 27 = .ok (.if_icmp .ge 7, 3) := by decide +kernel
theorem dX8_isBefore_30 : decode cX8_isBefore 30 = .ok (.iconst 1, 1) := by decide +kernel
theorem dX8_isBefore_31 : decode cX8_isBefore 31 = .ok (.goto 4, 3) := by decide +kernel
theorem dX8_isBefore_34 : decode cX8_isBefore 34 = .ok (.iconst 0, 1) := by decide +kernel
theorem dX8_isBefore_35 : decode cX8_isBefore 35 = .ok (.ireturn, 1) := by decide +kernel
theorem dX8_isBefore_36 : decode cX8_isBefore 36 = .ok (.iconst 0, 1) := by decide +kernel
theorem dX8_isBefore_37 : decode cX8_isBefore 37 = .ok (.istore_n 3, 1) := by decide +kernel
theorem dX8_isBefore_38 : decode cX8_isBefore 38 = .ok (.iload_n 3, 1) := by decide +kernel
theorem dX8_isBefore_39 : decode cX8_isBefore 39 = .ok (.iconst 4, 1) := by decide +kernel
theorem dX8_isBefore_40 : decode cX8_isBefore 40 = .ok (.if_icmp .ge 61, 3) := by decide +kernel
theorem dX8_isBefore_43 : decode cX8_isBefore 43 = .ok (.aload_n 0, 1) := by decide +kernel
theorem dX8_isBefore_44 : decode cX8_isBefore 44 = .ok (.getfield 17, 3) := by decide +kernel
theorem dX8_isBefore_47 : decode cX8_isBefore 47 = .ok (.iconst 4, 1) := by decide +kernel
theorem dX8_isBefore_48 : decode cX8_isBefore 48 = .ok (.iload_n 1, 1) := by decide +kernel
theorem dX8_isBefore_49 : decode cX8_isBefore 49 = .ok (.imul, 1) := by decide +kernel
theorem dX8_isBefore_50 : decode cX8_isBefore 50 = .ok (.iload_n 3, 1) := by decide +kernel
theorem dX8_isBefore_51 : decode cX8_isBefore 51 = .ok (.iadd, 1) := by decide +kernel
theorem dX8_isBefore_52 : decode cX8_isBefore 52 = .ok (.iaload, 1) := by decide +kernel
theorem dX8_isBefore_53 : decode cX8_isBefore 53 = .ok (.aload_n 0, 1) := by decide +kernel
theorem dX8_isBefore_54 : decode cX8_isBefore 54 = .ok (.getfield 17, 3) := by decide +kernel
theorem dX8_isBefore_57 : decode cX8_isBefore 57 = .ok (.iconst 4, 1) := by decide +kernel
theorem dX8_isBefore_58 : decode cX8_isBefore 58 = .ok (.iload_n 2, 1) := by decide +kernel
theorem dX8_isBefore_59 : decode cX8_isBefore 59 = .ok (.imul, 1) := by decide +kernel
theorem dX8_isBefore_60 : decode cX8_isBefore 60 = .ok (.iload_n 3, 1) := by decide +kernel
theorem dX8_isBefore_61 : decode cX8_isBefore 61 = .ok (.iadd, 1) := by decide +kernel
theorem dX8_isBefore_62 : decode cX8_isBefore 62 = .ok (.iaload, 1) := by decide +kernel
theorem dX8_isBefore_63 : decode cX8_isBefore 63 = .ok (.if_icmp .eq 32, 3) := by decide +kernel
theorem dX8_isBefore_66 : decode cX8_isBefore 66 = .ok (.aload_n 0, 1) := by decide +kernel
theorem dX8_isBefore_67 : decode cX8_isBefore 67 = .ok (.getfield 17, 3) := by decide +kernel
theorem dX8_isBefore_70 : decode cX8_isBefore 70 = .ok (.iconst 4, 1) := by decide +kernel
theorem dX8_isBefore_71 : decode cX8_isBefore 71 = .ok (.iload_n 1, 1) := by decide +kernel
theorem dX8_isBefore_72 : decode cX8_isBefore 72 = .ok (.imul, 1) := by decide +kernel
theorem dX8_isBefore_73 : decode cX8_isBefore 73 = .ok (.iload_n 3, 1) := by decide +kernel
theorem dX8_isBefore_74 : decode cX8_isBefore 74 = .ok (.iadd, 1) := by decide +kernel
theorem dX8_isBefore_75 : decode cX8_isBefore 75 = .ok (.iaload, 1) := by decide +kernel
theorem dX8_isBefore_76 : decode cX8_isBefore 76 = .ok (.aload_n 0, 1) := by decide +kernel
theorem dX8_isBefore_77 : decode cX8_isBefore 77 = .ok (.getfield 17, 3) := by decide +kernel
theorem dX8_isBefore_80 : decode cX8_isBefore 80 = .ok (.iconst 4, 1) := by decide +kernel
theorem dX8_isBefore_81 : decode cX8_isBefore 81 = .ok (.iload_n 2, 1) := by decide +kernel
theorem dX8_isBefore_82 : decode cX8_isBefore 82 = .ok (.imul, 1) := by decide +kernel
theorem dX8_isBefore_83 : decode cX8_isBefore 83 = .ok (.iload_n 3, 1) := by decide +kernel
theorem dX8_isBefore_84 : decode cX8_isBefore 84 = .ok (.iadd, 1) := by decide +kernel
theorem dX8_isBefore_85 : decode cX8_isBefore 85 = .ok (.iaload, 1) := by decide +kernel
theorem dX8_isBefore_86 : decode cX8_isBefore 86 = .ok (.if_icmp .ge 7, 3) := by decide +kernel
theorem dX8_isBefore_89 : decode cX8_isBefore 89 = .ok (.iconst 1, 1) := by decide +kernel
theorem dX8_isBefore_90 : decode cX8_isBefore 90 = .ok (.goto 4, 3) := by decide +kernel
theorem dX8_isBefore_93 : decode cX8_isBefore 93 = .ok (.iconst 0, 1) := by decide +kernel
theorem dX8_isBefore_94 : decode cX8_isBefore 94 = .ok (.ireturn, 1) := by decide +kernel
theorem dX8_isBefore_95 : decode cX8_isBefore 95 = .ok (.iinc 3 1, 3) := by decide +kernel
theorem dX8_isBefore_98 : decode cX8_isBefore 98 = .ok (.goto (-60), 3) := by decide +kernel
theorem dX8_isBefore_101 : decode cX8_isBefore 101 = .ok (.iconst 0, 1) := by decide +kernel
theorem dX8_isBefore_102 : decode cX8_isBefore 102 = .ok (.ireturn, 1) := by decide +kernel
theorem dX8_isNearer_0 : decode cX8_isNearer 0 = .ok (.aload_n 0, 1) := by decide +kernel
theorem dX8_isNearer_1 : decode cX8_isNearer 1 = .ok (.getfield 71, 3) := by decide +kernel
theorem dX8_isNearer_4 : decode cX8_isNearer 4 = .ok (.iload_n 1, 1) := by decide +kernel
theorem dX8_isNearer_5 : decode cX8_isNearer 5 = .ok (.iaload, 1) := by decide +kernel
theorem dX8_isNearer_6 : decode cX8_isNearer 6 = .ok (.ifCond .lt 21, 3) := by decide +kernel
theorem dX8_isNearer_9 : decode cX8_isNearer 9 = .ok (.aload_n 0, 1) := by decide +kernel
theorem dX8_isNearer_10 : decode cX8_isNearer 10 = .ok (.getfield 23, 3) := by decide +kernel
theorem dX8_isNearer_13 : decode cX8_isNearer 13 = .ok (.aload_n 0, 1) := by decide +kernel
theorem dX8_isNearer_14 : decode cX8_isNearer 14 = .ok (.getfield 68, 3) := by decide +kernel
theorem dX8_isNearer_17 : decode cX8_isNearer 17 = .ok (.iload_n 1, 1) := by decide +kernel
theorem dX8_isNearer_18 : decode cX8_isNearer 18 = .ok (.iaload, 1) := by decide +kernel
theorem dX8_isNearer_19 : decode cX8_isNearer 19 = .ok (.iaload, 1) := by decide +kernel
theorem dX8_isNearer_20 : decode cX8_isNearer 20 = .ok (.ifCond .ne 7, 3) := by decide +kernel
theorem dX8_isNearer_23 : decode cX8_isNearer 23 = .ok (.lconst 0, 1) := by decide +kernel
theorem dX8_isNearer_24 : decode cX8_isNearer 24 = .ok (.goto 22, 3) := by decide +kernel
theorem dX8_isNearer_27 : decode cX8_isNearer 27 = .ok (.aload_n 0, 1) := by decide +kernel
theorem dX8_isNearer_28 : decode cX8_isNearer 28 = .ok (.aload_n 0, 1) := by decide +kernel
theorem dX8_isNearer_29 : decode cX8_isNearer 29 = .ok (.getfield 71, 3) := by decide +kernel
theorem dX8_isNearer_32 : decode cX8_isNearer 32 = .ok (.iload_n 1, 1) := by decide +kernel
theorem dX8_isNearer_33 : decode cX8_isNearer 33 = .ok (.iaload, 1) := by decide +kernel
theorem dX8_isNearer_34 : decode cX8_isNearer 34 = .ok (.aload_n 0, 1) := by decide +kernel
theorem dX8_isNearer_35 : decode cX8_isNearer 35 = .ok (.getfield 68, 3) := by decide +kernel
theorem dX8_isNearer_38 : decode cX8_isNearer 38 = .ok (.iload_n 1, 1) := by decide +kernel
theorem dX8_isNearer_39 : decode cX8_isNearer 39 = .ok (.iaload, 1) := by decide +kernel
theorem dX8_isNearer_40 : decode cX8_isNearer 40 = .ok (.iload_n 3, 1) := by decide +kernel
theorem dX8_isNearer_41 : decode cX8_isNearer 41 = .ok (.iload 4, 2) := by decide +kernel
theorem dX8_isNearer_43 : decode cX8_isNearer 43 = .ok (.invokevirtual 228, 3) := by decide +kernel
theorem dX8_isNearer_46 : decode cX8_isNearer 46 = .ok (.lstore 5, 2) := by decide +kernel
theorem dX8_isNearer_48 : decode cX8_isNearer 48 = .ok (.aload_n 0, 1) := by decide +kernel
theorem dX8_isNearer_49 : decode cX8_isNearer 49 = .ok (.getfield 71, 3) := by decide +kernel
theorem dX8_isNearer_52 : decode cX8_isNearer 52 = .ok (.iload_n 2, 1) := by decide +kernel
theorem dX8_isNearer_53 : decode cX8_isNearer 53 = .ok (.iaload, 1) := by decide +kernel
theorem dX8_isNearer_54 : decode cX8_isNearer 54 = .ok (.ifCond .lt 21, 3) := by decide +kernel
theorem dX8_isNearer_57 : decode cX8_isNearer 57 = .ok (.aload_n 0, 1) := by decide +kernel
theorem dX8_isNearer_58 : decode cX8_isNearer 58 = .ok (.getfield 23, 3) := by decide +kernel
theorem dX8_isNearer_61 : decode cX8_isNearer 61 = .ok (.aload_n 0, 1) := by decide +kernel
theorem dX8_isNearer_62 : decode cX8_isNearer 62 = .ok (.getfield 68, 3) := by decide +kernel
theorem dX8_isNearer_65 : decode cX8_isNearer 65 = .ok (.iload_n 2, 1) := by decide +kernel
theorem dX8_isNearer_66 : decode cX8_isNearer 66 = .ok (.iaload, 1) := by decide +kernel
theorem dX8_isNearer_67 : decode cX8_isNearer 67 = .ok (.iaload, 1) := by decide +kernel
theorem dX8_isNearer_68 : decode cX8_isNearer 68 = .ok (.ifCond .ne 7, 3) := by decide +kernel
theorem dX8_isNearer_71 : decode cX8_isNearer 71 = .ok (.lconst 0, 1) := by decide +kernel
theorem dX8_isNearer_72 : decode cX8_isNearer 72 = .ok (.goto 22, 3) := by decide +kernel
theorem dX8_isNearer_75 : decode cX8_isNearer 75 = .ok (.aload_n 0, 1) := by decide +kernel
theorem dX8_isNearer_76 : decode cX8_isNearer 76 = .ok (.aload_n 0, 1) := by decide +kernel
theorem dX8_isNearer_77 : decode cX8_isNearer 77 = .ok (.getfield 71, 3) := by decide +kernel
theorem dX8_isNearer_80 : decode cX8_isNearer 80 = .ok (.iload_n 2, 1) := by decide +kernel
theorem dX8_isNearer_81 : decode cX8_isNearer 81 = .ok (.iaload, 1) := by decide +kernel
theorem dX8_isNearer_82 : decode cX8_isNearer 82 = .ok (.aload_n 0, 1) := by decide +kernel
theorem dX8_isNearer_83 : decode cX8_isNearer 83 = .ok (.getfield 68, 3) := by decide +kernel
theorem dX8_isNearer_86 : decode cX8_isNearer 86 = .ok (.iload_n 2, 1) := by decide +kernel
theorem dX8_isNearer_87 : decode cX8_isNearer 87 = .ok (.iaload, 1) := by decide +kernel
theorem dX8_isNearer_88 : decode cX8_isNearer 88 = .ok (.iload_n 3, 1) := by decide +kernel
theorem dX8_isNearer_89 : decode cX8_isNearer 89 = .ok (.iload 4, 2) := by decide +kernel
theorem dX8_isNearer_91 : decode cX8_isNearer 91 = .ok (.invokevirtual 228, 3) := by decide +kernel
theorem dX8_isNearer_94 : decode cX8_isNearer 94 = .ok (.lstore 7, 2) := by decide +kernel
theorem dX8_isNearer_96 : decode cX8_isNearer 96 = .ok (.lload 5, 2) := by decide +kernel
theorem dX8_isNearer_98 : decode cX8_isNearer 98 = .ok (.lload 7, 2) := by decide +kernel
theorem dX8_isNearer_100 : decode cX8_isNearer 100 = .ok (.lcmp, 1) := by decide +kernel
theorem dX8_isNearer_101 : decode cX8_isNearer 101 = .ok (.ifCond .eq 17, 3) := by decide +kernel
theorem dX8_isNearer_104 : decode cX8_isNearer 104 = .ok (.lload 5, 2) := by decide +kernel
theorem dX8_isNearer_106 : decode cX8_isNearer 106 = .ok (.lload 7, 2) := by decide +kernel
theorem dX8_isNearer_108 : decode cX8_isNearer 108 = .ok (.lcmp, 1) := by decide +kernel
theorem dX8_isNearer_109 : decode cX8_isNearer 109 = .ok (.ifCond .ge 7, 3) := by decide +kernel
theorem dX8_isNearer_112 : decode cX8_isNearer 112 = .ok (.iconst 1, 1) := by decide +kernel
theorem dX8_isNearer_113 : decode cX8_isNearer 113 = .ok (.goto 4, 3) := by decide +kernel
theorem dX8_isNearer_116 : decode cX8_isNearer 116 = .ok (.iconst 0, 1) := by decide +kernel
theorem dX8_isNearer_117 : decode cX8_isNearer 117 = .ok (.ireturn, 1) := by decide +kernel
theorem dX8_isNearer_118 : decode cX8_isNearer 118 = .ok (.aload_n 0, 1) := by decide +kernel
theorem dX8_isNearer_119 : decode cX8_isNearer 119 = .ok (.getfield 71, 3) := by decide +kernel
theorem dX8_isNearer_122 : decode cX8_isNearer 122 = .ok (.iload_n 1, 1) := by decide +kernel
theorem dX8_isNearer_123 : decode cX8_isNearer 123 = .ok (.iaload, 1) := by decide +kernel
theorem dX8_isNearer_124 : decode cX8_isNearer 124 = .ok (.ifCond .ge 7, 3) := by decide +kernel
theorem dX8_isNearer_127 : decode cX8_isNearer 127 = .ok (.iconst 1, 1) := by decide +kernel
theorem dX8_isNearer_128 : decode cX8_isNearer 128 = .ok (.goto 4, 3) := by decide +kernel
theorem dX8_isNearer_131 : decode cX8_isNearer 131 = .ok (.iconst 0, 1) := by decide +kernel
theorem dX8_isNearer_132 : decode cX8_isNearer 132 = .ok (.aload_n 0, 1) := by decide +kernel
theorem dX8_isNearer_133 : decode cX8_isNearer 133 = .ok (.getfield 71, 3) := by decide +kernel
theorem dX8_isNearer_136 : decode cX8_isNearer 136 = .ok (.iload_n 2, 1) := by decide +kernel
theorem dX8_isNearer_137 : decode cX8_isNearer 137 = .ok (.iaload, 1) := by decide +kernel
theorem dX8_isNearer_138 : decode cX8_isNearer 138 = .ok (.ifCond .ge 7, 3) := by decide +kernel
theorem dX8_isNearer_141 : decode cX8_isNearer 141 = .ok (.iconst 1, 1) := by decide +kernel
theorem dX8_isNearer_142 : decode cX8_isNearer 142 = .ok (.goto 4, 3) := by decide +kernel
theorem dX8_isNearer_145 : decode cX8_isNearer 145 = .ok (.iconst 0, 1) := by decide +kernel
theorem dX8_isNearer_146 : decode cX8_isNearer 146 = .ok (.if_icmp .eq 18, 3) := by decide +kernel
theorem dX8_isNearer_149 : decode cX8_isNearer 149 = .ok (.aload_n 0, 1) := by decide +kernel
theorem dX8_isNearer_150 : decode cX8_isNearer 150 = .ok (.getfield 71, 3) := by decide +kernel
theorem dX8_isNearer_153 : decode cX8_isNearer 153 = .ok (.iload_n 1, 1) := by decide +kernel
theorem dX8_isNearer_154 : decode cX8_isNearer 154 = .ok (.iaload, 1) := by decide +kernel
theorem dX8_isNearer_155 : decode cX8_isNearer 155 = .ok (.ifCond .ge 7, 3) := by decide +kernel
theorem dX8_isNearer_158 : decode cX8_isNearer 158 = .ok (.iconst 1, 1) := by decide +kernel
theorem dX8_isNearer_159 : decode cX8_isNearer 159 = .ok (.goto 4, 3) := by decide +kernel
theorem dX8_isNearer_162 : decode cX8_isNearer 162 = .ok (.iconst 0, 1) := by decide +kernel
theorem dX8_isNearer_163 : decode cX8_isNearer 163 = .ok (.ireturn, 1) := by decide +kernel
theorem dX8_isNearer_164 : decode cX8_isNearer 164 = .ok (.aload_n 0, 1) := by decide +kernel
theorem dX8_isNearer_165 : decode cX8_isNearer 165 = .ok (.getfield 71, 3) := by decide +kernel
theorem dX8_isNearer_168 : decode cX8_isNearer 168 = .ok (.iload_n 1, 1) := by decide +kernel
theorem dX8_isNearer_169 : decode cX8_isNearer 169 = .ok (.iaload, 1) := by decide +kernel
theorem dX8_isNearer_170 : decode cX8_isNearer 170 = .ok (.ifCond .ge 22, 3) := by decide +kernel
theorem dX8_isNearer_173 : decode cX8_isNearer 173 = .ok (.aload_n 0, 1) := by decide +kernel
theorem dX8_isNearer_174 : decode cX8_isNearer 174 = .ok (.aload_n 0, 1) := by decide +kernel
theorem dX8_isNearer_175 : decode cX8_isNearer 175 = .ok (.getfield 68, 3) := by decide +kernel
theorem dX8_isNearer_178 : decode cX8_isNearer 178 = .ok (.iload_n 1, 1) := by decide +kernel
theorem dX8_isNearer_179 : decode cX8_isNearer 179 = .ok (.iaload, 1) := by decide +kernel
theorem dX8_isNearer_180 : decode cX8_isNearer 180 = .ok (.aload_n 0, 1) := by decide +kernel
theorem dX8_isNearer_181 : decode cX8_isNearer 181 = .ok (.getfield 68, 3) := by decide +kernel
theorem dX8_isNearer_184 : decode cX8_isNearer 184 = .ok (.iload_n 2, 1) := by decide +kernel
theorem dX8_isNearer_185 : decode cX8_isNearer 185 = .ok (.iaload, 1) := by decide +kernel
theorem dX8_isNearer_186 : decode cX8_isNearer 186 = .ok (.invokevirtual 231, 3) := by decide +kernel
theorem dX8_isNearer_189 : decode cX8_isNearer 189 = .ok (.goto 33, 3) := by decide +kernel
theorem dX8_isNearer_192 : decode cX8_isNearer 192 = .ok (.aload_n 0, 1) := by decide +kernel
theorem dX8_isNearer_193 : decode cX8_isNearer 193 = .ok (.getfield 74, 3) := by decide +kernel
theorem dX8_isNearer_196 : decode cX8_isNearer 196 = .ok (.aload_n 0, 1) := by decide +kernel
theorem dX8_isNearer_197 : decode cX8_isNearer 197 = .ok (.getfield 68, 3) := by decide +kernel
theorem dX8_isNearer_200 : decode cX8_isNearer 200 = .ok (.iload_n 1, 1) := by decide +kernel
theorem dX8_isNearer_201 : decode cX8_isNearer 201 = .ok (.iaload, 1) := by decide +kernel
theorem dX8_isNearer_202 : decode cX8_isNearer 202 = .ok (.iaload, 1) := by decide +kernel
theorem dX8_isNearer_203 : decode cX8_isNearer 203 = .ok (.aload_n 0, 1) := by decide +kernel
theorem dX8_isNearer_204 : decode cX8_isNearer 204 = .ok (.getfield 74, 3) := by decide +kernel
theorem dX8_isNearer_207 : decode cX8_isNearer 207 = .ok (.aload_n 0, 1) := by decide +kernel
theorem dX8_isNearer_208 : decode cX8_isNearer 208 = .ok (.getfield 68, 3) := by decide +kernel
theorem dX8_isNearer_211 : decode cX8_isNearer 211 = .ok (.iload_n 2, 1) := by decide +kernel
theorem dX8_isNearer_212 : decode cX8_isNearer 212 = .ok (.iaload, 1) := by decide +kernel
theorem dX8_isNearer_213 : decode cX8_isNearer 213 = .ok (.iaload, 1) := by decide +kernel
theorem dX8_isNearer_214 : decode cX8_isNearer 214 = .ok (.if_icmp .ge 7, 3) := by decide +kernel
theorem dX8_isNearer_217 : decode cX8_isNearer 217 = .ok (.iconst 1, 1) := by decide +kernel
theorem dX8_isNearer_218 : decode cX8_isNearer 218 = .ok (.goto 4, 3) := by decide +kernel
theorem dX8_isNearer_221 : decode cX8_isNearer 221 = .ok (.iconst 0, 1) := by decide +kernel
theorem dX8_isNearer_222 : decode cX8_isNearer 222 = .ok (.ireturn, 1) := by decide +kernel
theorem dX8_nearest_0 : decode cX8_nearest 0 = .ok (.iload_n 1, 1) := by decide +kernel
theorem dX8_nearest_1 : decode cX8_nearest 1 = .ok (.invokestatic 111, 3) := by decide +kernel
theorem dX8_nearest_4 : decode cX8_nearest 4 = .ok (.ifCond .eq 22, 3) := by decide +kernel
theorem dX8_nearest_7 : decode cX8_nearest 7 = .ok (.iload_n 2, 1) := by decide +kernel
theorem dX8_nearest_8 : decode cX8_nearest 8 = .ok (.invokestatic 111, 3) := by decide +kernel
theorem dX8_nearest_11 : decode cX8_nearest 11 = .ok (.ifCond .eq 15, 3) := by decide +kernel
theorem dX8_nearest_14 : decode cX8_nearest 14 = .ok (.iload_n 3, 1) := by decide +kernel
theorem dX8_nearest_15 : decode cX8_nearest 15 = .ok (.ifCond .lt 11, 3) := by decide +kernel
theorem dX8_nearest_18 : decode cX8_nearest 18 = .ok (.iload_n 3, 1) := by decide +kernel
theorem dX8_nearest_19 : decode cX8_nearest 19 = .ok (.aload_n 0, 1) := by decide +kernel
theorem dX8_nearest_20 : decode cX8_nearest 20 = .ok (.getfield 181, 3) := by decide +kernel
theorem dX8_nearest_23 : decode cX8_nearest 23 = .ok (.if_icmp .lt 5, 3) := by decide +kernel
theorem dX8_nearest_26 : decode cX8_nearest 26 = .ok (.iconst (-1), 1) := by decide +kernel
theorem dX8_nearest_27 : decode cX8_nearest 27 = .ok (.ireturn, 1) := by decide +kernel
theorem dX8_nearest_28 : decode cX8_nearest 28 = .ok (.aload_n 0, 1) := by decide +kernel
theorem dX8_nearest_29 : decode cX8_nearest 29 = .ok (.invokevirtual 235, 3) := by decide +kernel
theorem dX8_nearest_32 : decode cX8_nearest 32 = .ok (.aload_n 0, 1) := by decide +kernel
theorem dX8_nearest_33 : decode cX8_nearest 33 = .ok (.iconst 0, 1) := by decide +kernel
theorem dX8_nearest_34 : decode cX8_nearest 34 = .ok (.putfield 238, 3) := by decide +kernel
theorem dX8_nearest_37 : decode cX8_nearest 37 = .ok (.aload_n 0, 1) := by decide +kernel
theorem dX8_nearest_38 : decode cX8_nearest 38 = .ok (.iconst 1, 1) := by decide +kernel
theorem dX8_nearest_39 : decode cX8_nearest 39 = .ok (.putfield 241, 3) := by decide +kernel
theorem dX8_nearest_42 : decode cX8_nearest 42 = .ok (.aload_n 0, 1) := by decide +kernel
theorem dX8_nearest_43 : decode cX8_nearest 43 = .ok (.getfield 68, 3) := by decide +kernel
theorem dX8_nearest_46 : decode cX8_nearest 46 = .ok (.iconst 0, 1) := by decide +kernel
theorem dX8_nearest_47 : decode cX8_nearest 47 = .ok (.aload_n 0, 1) := by decide +kernel
theorem dX8_nearest_48 : decode cX8_nearest 48 = .ok (.getfield 93, 3) := by decide +kernel
theorem dX8_nearest_51 : decode cX8_nearest 51 = .ok (.iastore, 1) := by decide +kernel
theorem dX8_nearest_52 : decode cX8_nearest 52 = .ok (.aload_n 0, 1) := by decide +kernel
theorem dX8_nearest_53 : decode cX8_nearest 53 = .ok (.getfield 71, 3) := by decide +kernel
theorem dX8_nearest_56 : decode cX8_nearest 56 = .ok (.iconst 0, 1) := by decide +kernel
theorem dX8_nearest_57 : decode cX8_nearest 57 = .ok (.aload_n 0, 1) := by decide +kernel
theorem dX8_nearest_58 : decode cX8_nearest 58 = .ok (.getfield 20, 3) := by decide +kernel
theorem dX8_nearest_61 : decode cX8_nearest 61 = .ok (.aload_n 0, 1) := by decide +kernel
theorem dX8_nearest_62 : decode cX8_nearest 62 = .ok (.getfield 93, 3) := by decide +kernel
theorem dX8_nearest_65 : decode cX8_nearest 65 = .ok (.iaload, 1) := by decide +kernel
theorem dX8_nearest_66 : decode cX8_nearest 66 = .ok (.iastore, 1) := by decide +kernel
theorem dX8_nearest_67 : decode cX8_nearest 67 = .ok (.iload_n 3, 1) := by decide +kernel
theorem dX8_nearest_68 : decode cX8_nearest 68 = .ok (.istore 4, 2) := by decide +kernel
theorem dX8_nearest_70 : decode cX8_nearest 70 = .ok (.iconst 0, 1) := by decide +kernel
theorem dX8_nearest_71 : decode cX8_nearest 71 = .ok (.istore 5, 2) := by decide +kernel
theorem dX8_nearest_73 : decode cX8_nearest 73 = .ok (.iconst 1, 1) := by decide +kernel
theorem dX8_nearest_74 : decode cX8_nearest 74 = .ok (.istore 6, 2) := by decide +kernel
theorem dX8_nearest_76 : decode cX8_nearest 76 = .ok (.iload 6, 2) := by decide +kernel
theorem dX8_nearest_78 : decode cX8_nearest 78 = .ok (.aload_n 0, 1) := by decide +kernel
theorem dX8_nearest_79 : decode cX8_nearest 79 = .ok (.getfield 241, 3) := by decide +kernel
theorem dX8_nearest_82 : decode cX8_nearest 82 = .ok (.if_icmp .ge 31, 3) := by decide +kernel
theorem dX8_nearest_85 : decode cX8_nearest 85 = .ok (.aload_n 0, 1) := by decide +kernel
theorem dX8_nearest_86 : decode cX8_nearest 86 = .ok (.iload 6, 2) := by decide +kernel
theorem dX8_nearest_88 : decode cX8_nearest 88 = .ok (.iload 5, 2) := by decide +kernel
theorem dX8_nearest_90 : decode cX8_nearest 90 = .ok (.iload_n 1, 1) := by decide +kernel
theorem dX8_nearest_91 : decode cX8_nearest 91 = .ok (.iload_n 2, 1) := by decide +kernel
theorem dX8_nearest_92 : decode cX8_nearest 92 = .ok (.invokevirtual 244, 3) := by decide +kernel
theorem dX8_nearest_95 : decode cX8_nearest 95 = .ok (.ifCond .eq 8, 3) := by decide +kernel
theorem dX8_nearest_98 : decode cX8_nearest 98 = .ok (.iload 6, 2) := by decide +kernel
theorem dX8_nearest_100 : decode cX8_nearest 100 = .ok (.goto 5, 3) := by decide +kernel
theorem dX8_nearest_103 : decode cX8_nearest 103 = .ok (.iload 5, 2) := by decide +kernel
theorem dX8_nearest_105 : decode cX8_nearest 105 = .ok (.istore 5, 2) := by decide +kernel
theorem dX8_nearest_107 : decode cX8_nearest 107 = .ok (.iinc 6 1, 3) := by decide +kernel
theorem dX8_nearest_110 : decode cX8_nearest 110 = .ok (.goto (-34), 3) := by decide +kernel
theorem dX8_nearest_113 : decode cX8_nearest 113 = .ok (.aload_n 0, 1) := by decide +kernel
theorem dX8_nearest_114 : decode cX8_nearest 114 = .ok (.getfield 68, 3) := by decide +kernel
theorem dX8_nearest_117 : decode cX8_nearest 117 = .ok (.iload 5, 2) := by decide +kernel
theorem dX8_nearest_119 : decode cX8_nearest 119 = .ok (.iaload, 1) := by decide +kernel
theorem dX8_nearest_120 : decode cX8_nearest 120 = .ok (.istore 6, 2) := by decide +kernel
theorem dX8_nearest_122 : decode cX8_nearest 122 = .ok (.aload_n 0, 1) := by decide +kernel
theorem dX8_nearest_123 : decode cX8_nearest 123 = .ok (.getfield 71, 3) := by decide +kernel
theorem dX8_nearest_126 : decode cX8_nearest 126 = .ok (.iload 5, 2) := by decide +kernel
theorem dX8_nearest_128 : decode cX8_nearest 128 = .ok (.iaload, 1) := by decide +kernel
theorem dX8_nearest_129 : decode cX8_nearest 129 = .ok (.istore 7, 2) := by decide +kernel
theorem dX8_nearest_131 : decode cX8_nearest 131 = .ok (.aload_n 0, 1) := by decide +kernel
theorem dX8_nearest_132 : decode cX8_nearest 132 = .ok (.dup, 1) := by decide +kernel
theorem dX8_nearest_133 : decode cX8_nearest 133 = .ok (.getfield 241, 3) := by decide +kernel
theorem dX8_nearest_136 : decode cX8_nearest 136 = .ok (.iconst 1, 1) := by decide +kernel
theorem dX8_nearest_137 : decode cX8_nearest 137 = .ok (.isub, 1) := by decide +kernel
theorem dX8_nearest_138 : decode cX8_nearest 138 = .ok (.putfield 241, 3) := by decide +kernel
theorem dX8_nearest_141 : decode cX8_nearest 141 = .ok (.aload_n 0, 1) := by decide +kernel
theorem dX8_nearest_142 : decode cX8_nearest 142 = .ok (.getfield 68, 3) := by decide +kernel
theorem dX8_nearest_145 : decode cX8_nearest 145 = .ok (.iload 5, 2) := by decide +kernel
theorem dX8_nearest_147 : decode cX8_nearest 147 = .ok (.aload_n 0, 1) := by decide +kernel
theorem dX8_nearest_148 : decode cX8_nearest 148 = .ok (.getfield 68, 3) := by decide +kernel
theorem dX8_nearest_151 : decode cX8_nearest 151 = .ok (.aload_n 0, 1) := by decide +kernel
theorem dX8_nearest_152 : decode cX8_nearest 152 = .ok (.getfield 241, 3) := by decide +kernel
theorem dX8_nearest_155 : decode cX8_nearest 155 = .ok (.iaload, 1) := by decide +kernel
end
section
theorem dX8_nearest_156 : decode cX8_nearest 156 = .ok (.iastore, 1) := by decide +kernel
theorem dX8_nearest_157 : decode cX8_nearest 157 = .ok (.aload_n 0, 1) := by decide +kernel
theorem dX8_nearest_158 : decode cX8_nearest 158 = .ok (.getfield 71, 3) := by decide +kernel
theorem dX8_nearest_161 : decode cX8_nearest 161 = .ok (.iload 5, 2) := by decide +kernel
theorem dX8_nearest_163 : decode cX8_nearest 163 = .ok (.aload_n 0, 1) := by decide +kernel
theorem dX8_nearest_164 : decode cX8_nearest 164 = .ok (.getfield 71, 3) := by decide +kernel
theorem dX8_nearest_167 : decode cX8_nearest 167 = .ok (.aload_n 0, 1) := by decide +kernel
theorem dX8_nearest_168 : decode cX8_nearest 168 = .ok (.getfield 241, 3) := by decide +kernel
theorem dX8_nearest_171 : decode cX8_nearest 171 = .ok (.iaload, 1) := by decide +kernel
theorem dX8_nearest_172 : decode cX8_nearest 172 = .ok (.iastore, 1) := by decide +kernel
theorem dX8_nearest_173 : decode cX8_nearest 173 = .ok (.iload 7, 2) := by decide +kernel
theorem dX8_nearest_175 : decode cX8_nearest 175 = .ok (.ifCond .ge 40, 3) := by decide +kernel
theorem dX8_nearest_178 : decode cX8_nearest 178 = .ok (.iload 4, 2) := by decide +kernel
theorem dX8_nearest_180 : decode cX8_nearest 180 = .ok (.ifCond .ne 29, 3) := by decide +kernel
theorem dX8_nearest_183 : decode cX8_nearest 183 = .ok (.aload_n 0, 1) := by decide +kernel
theorem dX8_nearest_184 : decode cX8_nearest 184 = .ok (.iconst 1, 1) := by decide +kernel
theorem dX8_nearest_185 : decode cX8_nearest 185 = .ok (.putfield 247, 3) := by decide +kernel
theorem dX8_nearest_188 : decode cX8_nearest 188 = .ok (.aload_n 0, 1) := by decide +kernel
theorem dX8_nearest_189 : decode cX8_nearest 189 = .ok (.aload_n 0, 1) := by decide +kernel
theorem dX8_nearest_190 : decode cX8_nearest 190 = .ok (.iconst (-1), 1) := by decide +kernel
theorem dX8_nearest_191 : decode cX8_nearest 191 = .ok (.iload 6, 2) := by decide +kernel
theorem dX8_nearest_193 : decode cX8_nearest 193 = .ok (.iload_n 1, 1) := by decide +kernel
theorem dX8_nearest_194 : decode cX8_nearest 194 = .ok (.iload_n 2, 1) := by decide +kernel
theorem dX8_nearest_195 : decode cX8_nearest 195 = .ok (.invokevirtual 228, 3) := by decide +kernel
theorem dX8_nearest_198 : decode cX8_nearest 198 = .ok (.putfield 250, 3) := by decide +kernel
theorem dX8_nearest_201 : decode cX8_nearest 201 = .ok (.aload_n 0, 1) := by decide +kernel
theorem dX8_nearest_202 : decode cX8_nearest 202 = .ok (.getfield 13, 3) := by decide +kernel
theorem dX8_nearest_205 : decode cX8_nearest 205 = .ok (.iload 6, 2) := by decide +kernel
theorem dX8_nearest_207 : decode cX8_nearest 207 = .ok (.iaload, 1) := by decide +kernel
theorem dX8_nearest_208 : decode cX8_nearest 208 = .ok (.ireturn, 1) := by decide +kernel
theorem dX8_nearest_209 : decode cX8_nearest 209 = .ok (.iinc 4 (-1), 3) := by decide +kernel
theorem dX8_nearest_212 : decode cX8_nearest 212 = .ok (.goto 74, 3) := by decide +kernel
theorem dX8_nearest_215 : decode cX8_nearest 215 = .ok (.aload_n 0, 1) := by decide +kernel
theorem dX8_nearest_216 : decode cX8_nearest 216 = .ok (.dup, 1) := by decide +kernel
theorem dX8_nearest_217 : decode cX8_nearest 217 = .ok (.getfield 238, 3) := by decide +kernel
theorem dX8_nearest_220 : decode cX8_nearest 220 = .ok (.iconst 1, 1) := by decide +kernel
theorem dX8_nearest_221 : decode cX8_nearest 221 = .ok (.iadd, 1) := by decide +kernel
theorem dX8_nearest_222 : decode cX8_nearest 222 = .ok (.putfield 238, 3) := by decide +kernel
theorem dX8_nearest_225 : decode cX8_nearest 225 = .ok (.iconst 0, 1) := by decide +kernel
theorem dX8_nearest_226 : decode cX8_nearest 226 = .ok (.istore 8, 2) := by decide +kernel
theorem dX8_nearest_228 : decode cX8_nearest 228 = .ok (.iload 8, 2) := by decide +kernel
theorem dX8_nearest_230 : decode cX8_nearest 230 = .ok (.aload_n 0, 1) := by decide +kernel
theorem dX8_nearest_231 : decode cX8_nearest 231 = .ok (.getfield 23, 3) := by decide +kernel
theorem dX8_nearest_234 : decode cX8_nearest 234 = .ok (.iload 6, 2) := by decide +kernel
theorem dX8_nearest_236 : decode cX8_nearest 236 = .ok (.iaload, 1) := by decide +kernel
theorem dX8_nearest_237 : decode cX8_nearest 237 = .ok (.if_icmp .ge 49, 3) := by decide +kernel
theorem dX8_nearest_240 : decode cX8_nearest 240 = .ok (.aload_n 0, 1) := by decide +kernel
theorem dX8_nearest_241 : decode cX8_nearest 241 = .ok (.getfield 68, 3) := by decide +kernel
theorem dX8_nearest_244 : decode cX8_nearest 244 = .ok (.aload_n 0, 1) := by decide +kernel
theorem dX8_nearest_245 : decode cX8_nearest 245 = .ok (.getfield 241, 3) := by decide +kernel
theorem dX8_nearest_248 : decode cX8_nearest 248 = .ok (.aload_n 0, 1) := by decide +kernel
theorem dX8_nearest_249 : decode cX8_nearest 249 = .ok (.iload 6, 2) := by decide +kernel
theorem dX8_nearest_251 : decode cX8_nearest 251 = .ok (.iload 8, 2) := by decide +kernel
theorem dX8_nearest_253 : decode cX8_nearest 253 = .ok (.invokevirtual 115, 3) := by decide +kernel
theorem dX8_nearest_256 : decode cX8_nearest 256 = .ok (.iastore, 1) := by decide +kernel
theorem dX8_nearest_257 : decode cX8_nearest 257 = .ok (.aload_n 0, 1) := by decide +kernel
theorem dX8_nearest_258 : decode cX8_nearest 258 = .ok (.getfield 71, 3) := by decide +kernel
theorem dX8_nearest_261 : decode cX8_nearest 261 = .ok (.aload_n 0, 1) := by decide +kernel
theorem dX8_nearest_262 : decode cX8_nearest 262 = .ok (.getfield 241, 3) := by decide +kernel
theorem dX8_nearest_265 : decode cX8_nearest 265 = .ok (.iload 7, 2) := by decide +kernel
theorem dX8_nearest_267 : decode cX8_nearest 267 = .ok (.iconst 1, 1) := by decide +kernel
theorem dX8_nearest_268 : decode cX8_nearest 268 = .ok (.isub, 1) := by decide +kernel
theorem dX8_nearest_269 : decode cX8_nearest 269 = .ok (.iastore, 1) := by decide +kernel
theorem dX8_nearest_270 : decode cX8_nearest 270 = .ok (.aload_n 0, 1) := by decide +kernel
theorem dX8_nearest_271 : decode cX8_nearest 271 = .ok (.dup, 1) := by decide +kernel
theorem dX8_nearest_272 : decode cX8_nearest 272 = .ok (.getfield 241, 3) := by decide +kernel
theorem dX8_nearest_275 : decode cX8_nearest 275 = .ok (.iconst 1, 1) := by decide +kernel
theorem dX8_nearest_276 : decode cX8_nearest 276 = .ok (.iadd, 1) := by decide +kernel
theorem dX8_nearest_277 : decode cX8_nearest 277 = .ok (.putfield 241, 3) := by decide +kernel
theorem dX8_nearest_280 : decode cX8_nearest 280 = .ok (.iinc 8 1, 3) := by decide +kernel
theorem dX8_nearest_283 : decode cX8_nearest 283 = .ok (.goto (-55), 3) := by decide +kernel
theorem dX8_nearest_286 : decode cX8_nearest 286 = .ok (.goto (-216), 3) := by decide +kernel
theorem dX8_distance_0 : decode cX8_distance 0 = .ok (.aload_n 0, 1) := by decide +kernel
theorem dX8_distance_1 : decode cX8_distance 1 = .ok (.getfield 247, 3) := by decide +kernel
theorem dX8_distance_4 : decode cX8_distance 4 = .ok (.ifCond .eq 11, 3) := by decide +kernel
theorem dX8_distance_7 : decode cX8_distance 7 = .ok (.aload_n 0, 1) := by decide +kernel
theorem dX8_distance_8 : decode cX8_distance 8 = .ok (.getfield 250, 3) := by decide +kernel
theorem dX8_distance_11 : decode cX8_distance 11 = .ok (.l2i, 1) := by decide +kernel
theorem dX8_distance_12 : decode cX8_distance 12 = .ok (.goto 4, 3) := by decide +kernel
theorem dX8_distance_15 : decode cX8_distance 15 = .ok (.iconst (-1), 1) := by decide +kernel
theorem dX8_distance_16 : decode cX8_distance 16 = .ok (.ireturn, 1) := by decide +kernel
theorem dX8_pairs_0 : decode cX8_pairs 0 = .ok (.iconst 0, 1) := by decide +kernel
theorem dX8_pairs_1 : decode cX8_pairs 1 = .ok (.istore_n 1, 1) := by decide +kernel
theorem dX8_pairs_2 : decode cX8_pairs 2 = .ok (.iconst 0, 1) := by decide +kernel
theorem dX8_pairs_3 : decode cX8_pairs 3 = .ok (.istore_n 2, 1) := by decide +kernel
theorem dX8_pairs_4 : decode cX8_pairs 4 = .ok (.iload_n 2, 1) := by decide +kernel
theorem dX8_pairs_5 : decode cX8_pairs 5 = .ok (.sipush 400, 3) := by decide +kernel
theorem dX8_pairs_8 : decode cX8_pairs 8 = .ok (.if_icmp .ge 59, 3) := by decide +kernel
theorem dX8_pairs_11 : decode cX8_pairs 11 = .ok (.iconst 0, 1) := by decide +kernel
theorem dX8_pairs_12 : decode cX8_pairs 12 = .ok (.istore_n 3, 1) := by decide +kernel
theorem dX8_pairs_13 : decode cX8_pairs 13 = .ok (.iload_n 3, 1) := by decide +kernel
theorem dX8_pairs_14 : decode cX8_pairs 14 = .ok (.iload_n 2, 1) := by decide +kernel
theorem dX8_pairs_15 : decode cX8_pairs 15 = .ok (.if_icmp .ge 46, 3) := by decide +kernel
theorem dX8_pairs_18 : decode cX8_pairs 18 = .ok (.iload_n 1, 1) := by decide +kernel
theorem dX8_pairs_19 : decode cX8_pairs 19 = .ok (.aload_n 0, 1) := by decide +kernel
theorem dX8_pairs_20 : decode cX8_pairs 20 = .ok (.getfield 13, 3) := by decide +kernel
theorem dX8_pairs_23 : decode cX8_pairs 23 = .ok (.iload_n 2, 1) := by decide +kernel
theorem dX8_pairs_24 : decode cX8_pairs 24 = .ok (.iaload, 1) := by decide +kernel
theorem dX8_pairs_25 : decode cX8_pairs 25 = .ok (.ifCond .lt 27, 3) := by decide +kernel
theorem dX8_pairs_28 : decode cX8_pairs 28 = .ok (.aload_n 0, 1) := by decide +kernel
theorem dX8_pairs_29 : decode cX8_pairs 29 = .ok (.getfield 13, 3) := by decide +kernel
theorem dX8_pairs_32 : decode cX8_pairs 32 = .ok (.iload_n 3, 1) := by decide +kernel
theorem dX8_pairs_33 : decode cX8_pairs 33 = .ok (.iaload, 1) := by decide +kernel
theorem dX8_pairs_34 : decode cX8_pairs 34 = .ok (.ifCond .lt 18, 3) := by decide +kernel
theorem dX8_pairs_37 : decode cX8_pairs 37 = .ok (.aload_n 0, 1) := by decide +kernel
theorem dX8_pairs_38 : decode cX8_pairs 38 = .ok (.iconst (-1), 1) := by decide +kernel
theorem dX8_pairs_39 : decode cX8_pairs 39 = .ok (.iload_n 2, 1) := by decide +kernel
theorem dX8_pairs_40 : decode cX8_pairs 40 = .ok (.iconst (-1), 1) := by decide +kernel
theorem dX8_pairs_41 : decode cX8_pairs 41 = .ok (.iload_n 3, 1) := by decide +kernel
theorem dX8_pairs_42 : decode cX8_pairs 42 = .ok (.invokevirtual 254, 3) := by decide +kernel
theorem dX8_pairs_45 : decode cX8_pairs 45 = .ok (.ifCond .eq 7, 3) := by decide +kernel
theorem dX8_pairs_48 : decode cX8_pairs 48 = .ok (.iconst 1, 1) := by decide +kernel
theorem dX8_pairs_49 : decode cX8_pairs 49 = .ok (.goto 4, 3) := by decide +kernel
theorem dX8_pairs_52 : decode cX8_pairs 52 = .ok (.iconst 0, 1) := by decide +kernel
theorem dX8_pairs_53 : decode cX8_pairs 53 = .ok (.iadd, 1) := by decide +kernel
theorem dX8_pairs_54 : decode cX8_pairs 54 = .ok (.istore_n 1, 1) := by decide +kernel
theorem dX8_pairs_55 : decode cX8_pairs 55 = .ok (.iinc 3 1, 3) := by decide +kernel
theorem dX8_pairs_58 : decode cX8_pairs 58 = .ok (.goto (-45), 3) := by decide +kernel
theorem dX8_pairs_61 : decode cX8_pairs 61 = .ok (.iinc 2 1, 3) := by decide +kernel
theorem dX8_pairs_64 : decode cX8_pairs 64 = .ok (.goto (-60), 3) := by decide +kernel
theorem dX8_pairs_67 : decode cX8_pairs 67 = .ok (.iload_n 1, 1) := by decide +kernel
theorem dX8_pairs_68 : decode cX8_pairs 68 = .ok (.ireturn, 1) := by decide +kernel
theorem dX8_pairsOf_0 : decode cX8_pairsOf 0 = .ok (.iconst 1, 1) := by decide +kernel
theorem dX8_pairsOf_1 : decode cX8_pairsOf 1 = .ok (.istore_n 3, 1) := by decide +kernel
theorem dX8_pairsOf_2 : decode cX8_pairsOf 2 = .ok (.iconst 0, 1) := by decide +kernel
theorem dX8_pairsOf_3 : decode cX8_pairsOf 3 = .ok (.istore 4, 2) := by decide +kernel
theorem dX8_pairsOf_5 : decode cX8_pairsOf 5 = .ok (.aload_n 0, 1) := by decide +kernel
theorem dX8_pairsOf_6 : decode cX8_pairsOf 6 = .ok (.getfield 20, 3) := by decide +kernel
theorem dX8_pairsOf_9 : decode cX8_pairsOf 9 = .ok (.iload_n 1, 1) := by decide +kernel
theorem dX8_pairsOf_10 : decode cX8_pairsOf 10 = .ok (.iaload, 1) := by decide +kernel
theorem dX8_pairsOf_11 : decode cX8_pairsOf 11 = .ok (.ifCond .le 115, 3) := by decide +kernel
theorem dX8_pairsOf_14 : decode cX8_pairsOf 14 = .ok (.iload 4, 2) := by decide +kernel
theorem dX8_pairsOf_16 : decode cX8_pairsOf 16 = .ok (.aload_n 0, 1) := by decide +kernel
theorem dX8_pairsOf_17 : decode cX8_pairsOf 17 = .ok (.getfield 23, 3) := by decide +kernel
theorem dX8_pairsOf_20 : decode cX8_pairsOf 20 = .ok (.iload_n 1, 1) := by decide +kernel
theorem dX8_pairsOf_21 : decode cX8_pairsOf 21 = .ok (.iaload, 1) := by decide +kernel
theorem dX8_pairsOf_22 : decode cX8_pairsOf 22 = .ok (.if_icmp .ge 104, 3) := by decide +kernel
theorem dX8_pairsOf_25 : decode cX8_pairsOf 25 = .ok (.iload_n 1, 1) := by decide +kernel
theorem dX8_pairsOf_26 : decode cX8_pairsOf 26 = .ok (.iload_n 2, 1) := by decide +kernel
theorem dX8_pairsOf_27 : decode cX8_pairsOf 27 = .ok (.if_icmp .ne 8, 3) := by decide +kernel
theorem dX8_pairsOf_30 : decode cX8_pairsOf 30 = .ok (.iload 4, 2) := by decide +kernel
theorem dX8_pairsOf_32 : decode cX8_pairsOf 32 = .ok (.goto 4, 3) := by decide +kernel
theorem dX8_pairsOf_35 : decode cX8_pairsOf 35 = .ok (.iconst 0, 1) := by decide +kernel
theorem dX8_pairsOf_36 : decode cX8_pairsOf 36 = .ok (.istore 5, 2) := by decide +kernel
theorem dX8_pairsOf_38 : decode cX8_pairsOf 38 = .ok (.iload 5, 2) := by decide +kernel
theorem dX8_pairsOf_40 : decode cX8_pairsOf 40 = .ok (.aload_n 0, 1) := by decide +kernel
theorem dX8_pairsOf_41 : decode cX8_pairsOf 41 = .ok (.getfield 23, 3) := by decide +kernel
theorem dX8_pairsOf_44 : decode cX8_pairsOf 44 = .ok (.iload_n 2, 1) := by decide +kernel
theorem dX8_pairsOf_45 : decode cX8_pairsOf 45 = .ok (.iaload, 1) := by decide +kernel
theorem dX8_pairsOf_46 : decode cX8_pairsOf 46 = .ok (.if_icmp .ge 74, 3) := by decide +kernel
theorem dX8_pairsOf_49 : decode cX8_pairsOf 49 = .ok (.aload_n 0, 1) := by decide +kernel
theorem dX8_pairsOf_50 : decode cX8_pairsOf 50 = .ok (.iload_n 1, 1) := by decide +kernel
theorem dX8_pairsOf_51 : decode cX8_pairsOf 51 = .ok (.iload 4, 2) := by decide +kernel
theorem dX8_pairsOf_53 : decode cX8_pairsOf 53 = .ok (.invokevirtual 115, 3) := by decide +kernel
theorem dX8_pairsOf_56 : decode cX8_pairsOf 56 = .ok (.istore 6, 2) := by decide +kernel
theorem dX8_pairsOf_58 : decode cX8_pairsOf 58 = .ok (.aload_n 0, 1) := by decide +kernel
theorem dX8_pairsOf_59 : decode cX8_pairsOf 59 = .ok (.iload_n 2, 1) := by decide +kernel
theorem dX8_pairsOf_60 : decode cX8_pairsOf 60 = .ok (.iload 5, 2) := by decide +kernel
theorem dX8_pairsOf_62 : decode cX8_pairsOf 62 = .ok (.invokevirtual 115, 3) := by decide +kernel
theorem dX8_pairsOf_65 : decode cX8_pairsOf 65 = .ok (.istore 7, 2) := by decide +kernel
theorem dX8_pairsOf_67 : decode cX8_pairsOf 67 = .ok (.iload_n 3, 1) := by decide +kernel
theorem dX8_pairsOf_68 : decode cX8_pairsOf 68 = .ok (.iload 6, 2) := by decide +kernel
theorem dX8_pairsOf_70 : decode cX8_pairsOf 70 = .ok (.iload 7, 2) := by decide +kernel
theorem dX8_pairsOf_72 : decode cX8_pairsOf 72 = .ok (.if_icmp .eq 28, 3) := by decide +kernel
theorem dX8_pairsOf_75 : decode cX8_pairsOf 75 = .ok (.aload_n 0, 1) := by decide +kernel
theorem dX8_pairsOf_76 : decode cX8_pairsOf 76 = .ok (.aload_n 0, 1) := by decide +kernel
theorem dX8_pairsOf_77 : decode cX8_pairsOf 77 = .ok (.getfield 20, 3) := by decide +kernel
theorem dX8_pairsOf_80 : decode cX8_pairsOf 80 = .ok (.iload 6, 2) := by decide +kernel
theorem dX8_pairsOf_82 : decode cX8_pairsOf 82 = .ok (.iaload, 1) := by decide +kernel
theorem dX8_pairsOf_83 : decode cX8_pairsOf 83 = .ok (.iload 6, 2) := by decide +kernel
theorem dX8_pairsOf_85 : decode cX8_pairsOf 85 = .ok (.aload_n 0, 1) := by decide +kernel
theorem dX8_pairsOf_86 : decode cX8_pairsOf 86 = .ok (.getfield 20, 3) := by decide +kernel
theorem dX8_pairsOf_89 : decode cX8_pairsOf 89 = .ok (.iload 7, 2) := by decide +kernel
theorem dX8_pairsOf_91 : decode cX8_pairsOf 91 = .ok (.iaload, 1) := by decide +kernel
theorem dX8_pairsOf_92 : decode cX8_pairsOf 92 = .ok (.iload 7, 2) := by decide +kernel
theorem dX8_pairsOf_94 : decode cX8_pairsOf 94 = .ok (.invokevirtual 254, 3) := by decide +kernel
theorem dX8_pairsOf_97 : decode cX8_pairsOf 97 = .ok (.ifCond .eq 14, 3) := by decide +kernel
theorem dX8_pairsOf_100 : decode cX8_pairsOf 100 = .ok (.aload_n 0, 1) := by decide +kernel
theorem dX8_pairsOf_101 : decode cX8_pairsOf 101 = .ok (.iload 6, 2) := by decide +kernel
theorem dX8_pairsOf_103 : decode cX8_pairsOf 103 = .ok (.iload 7, 2) := by decide +kernel
theorem dX8_pairsOf_105 : decode cX8_pairsOf 105 = .ok (.invokevirtual 257, 3) := by decide +kernel
theorem dX8_pairsOf_108 : decode cX8_pairsOf 108 = .ok (.goto 4, 3) := by decide +kernel
theorem dX8_pairsOf_111 : decode cX8_pairsOf 111 = .ok (.iconst 0, 1) := by decide +kernel
theorem dX8_pairsOf_112 : decode cX8_pairsOf 112 = .ok (.iadd, 1) := by decide +kernel
theorem dX8_pairsOf_113 : decode cX8_pairsOf 113 = .ok (.istore_n 3, 1) := by decide +kernel
theorem dX8_pairsOf_114 : decode cX8_pairsOf 114 = .ok (.iinc 5 1, 3) := by decide +kernel
theorem dX8_pairsOf_117 : decode cX8_pairsOf 117 = .ok (.goto (-79), 3) := by decide +kernel
theorem dX8_pairsOf_120 : decode cX8_pairsOf 120 = .ok (.iinc 4 1, 3) := by decide +kernel
theorem dX8_pairsOf_123 : decode cX8_pairsOf 123 = .ok (.goto (-118), 3) := by decide +kernel
theorem dX8_pairsOf_126 : decode cX8_pairsOf 126 = .ok (.iload_n 3, 1) := by decide +kernel
theorem dX8_pairsOf_127 : decode cX8_pairsOf 127 = .ok (.ireturn, 1) := by decide +kernel
theorem dX8_visited_0 : decode cX8_visited 0 = .ok (.iload_n 1, 1) := by decide +kernel
theorem dX8_visited_1 : decode cX8_visited 1 = .ok (.tableswitch 61 0 2 #[27, 43, 48], 27) := by decide +kernel
theorem dX8_visited_28 : decode cX8_visited 28 = .ok (.aload_n 0, 1) := by decide +kernel
theorem dX8_visited_29 : decode cX8_visited 29 = .ok (.getfield 184, 3) := by decide +kernel
theorem dX8_visited_32 : decode cX8_visited 32 = .ok (.ifCond .eq 10, 3) := by decide +kernel
theorem dX8_visited_35 : decode cX8_visited 35 = .ok (.aload_n 0, 1) := by decide +kernel
theorem dX8_visited_36 : decode cX8_visited 36 = .ok (.getfield 212, 3) := by decide +kernel
theorem dX8_visited_39 : decode cX8_visited 39 = .ok (.goto 4, 3) := by decide +kernel
theorem dX8_visited_42 : decode cX8_visited 42 = .ok (.iconst (-1), 1) := by decide +kernel
theorem dX8_visited_43 : decode cX8_visited 43 = .ok (.ireturn, 1) := by decide +kernel
theorem dX8_visited_44 : decode cX8_visited 44 = .ok (.aload_n 0, 1) := by decide +kernel
theorem dX8_visited_45 : decode cX8_visited 45 = .ok (.getfield 238, 3) := by decide +kernel
theorem dX8_visited_48 : decode cX8_visited 48 = .ok (.ireturn, 1) := by decide +kernel
theorem dX8_visited_49 : decode cX8_visited 49 = .ok (.aload_n 0, 1) := by decide +kernel
theorem dX8_visited_50 : decode cX8_visited 50 = .ok (.aload_n 0, 1) := by decide +kernel
theorem dX8_visited_51 : decode cX8_visited 51 = .ok (.getfield 93, 3) := by decide +kernel
theorem dX8_visited_54 : decode cX8_visited 54 = .ok (.aload_n 0, 1) := by decide +kernel
theorem dX8_visited_55 : decode cX8_visited 55 = .ok (.getfield 93, 3) := by decide +kernel
theorem dX8_visited_58 : decode cX8_visited 58 = .ok (.invokevirtual 257, 3) := by decide +kernel
theorem dX8_visited_61 : decode cX8_visited 61 = .ok (.ireturn, 1) := by decide +kernel
theorem dX8_visited_62 : decode cX8_visited 62 = .ok (.iconst (-1), 1) := by decide +kernel
theorem dX8_visited_63 : decode cX8_visited 63 = .ok (.ireturn, 1) := by decide +kernel
theorem dX8_isPackedBefore_0 : decode cX8_isPackedBefore 0 = .ok (.aload_n 0, 1) := by decide +kernel
theorem dX8_isPackedBefore_1 : decode cX8_isPackedBefore 1 = .ok (.getfield 17, 3) := by decide +kernel
theorem dX8_isPackedBefore_4 : decode cX8_isPackedBefore 4 = .ok (.iconst 4, 1) := by decide +kernel
theorem dX8_isPackedBefore_5 : decode cX8_isPackedBefore 5 = .ok (.iload_n 1, 1) := by decide +kernel
theorem dX8_isPackedBefore_6 : decode cX8_isPackedBefore 6 = .ok (.imul, 1) := by decide +kernel
theorem dX8_isPackedBefore_7 : decode cX8_isPackedBefore 7 = .ok (.iaload, 1) := by decide +kernel
theorem dX8_isPackedBefore_8 : decode cX8_isPackedBefore 8 = .ok (.aload_n 0, 1) := by decide +kernel
theorem dX8_isPackedBefore_9 : decode cX8_isPackedBefore 9 = .ok (.getfield 17, 3) := by decide +kernel
theorem dX8_isPackedBefore_12 : decode cX8_isPackedBefore 12 = .ok (.iconst 4, 1) := by decide +kernel
theorem dX8_isPackedBefore_13 : decode cX8_isPackedBefore 13 = .ok (.iload_n 1, 1) := by decide +kernel
theorem dX8_isPackedBefore_14 : decode cX8_isPackedBefore 14 = .ok (.imul, 1) := by decide +kernel
theorem dX8_isPackedBefore_15 : decode cX8_isPackedBefore 15 = .ok (.iconst 2, 1) := by decide +kernel
theorem dX8_isPackedBefore_16 : decode cX8_isPackedBefore 16 = .ok (.iadd, 1) := by decide +kernel
theorem dX8_isPackedBefore_17 : decode cX8_isPackedBefore 17 = .ok (.iaload, 1) := by decide +kernel
theorem dX8_isPackedBefore_18 : decode cX8_isPackedBefore 18 = .ok (.iadd, 1) := by decide +kernel
theorem dX8_isPackedBefore_19 : decode cX8_isPackedBefore 19 = .ok (.istore 4, 2) := by decide +kernel
theorem dX8_isPackedBefore_21 : decode cX8_isPackedBefore 21 = .ok (.aload_n 0, 1) := by decide +kernel
theorem dX8_isPackedBefore_22 : decode cX8_isPackedBefore 22 = .ok (.getfield 17, 3) := by decide +kernel
theorem dX8_isPackedBefore_25 : decode cX8_isPackedBefore 25 = .ok (.iconst 4, 1) := by decide +kernel
theorem dX8_isPackedBefore_26 : decode cX8_isPackedBefore 26 = .ok (.iload_n 2, 1) := by decide +kernel
theorem dX8_isPackedBefore_27 : decode cX8_isPackedBefore 27 = .ok (.imul, 1) := by decide +kernel
theorem dX8_isPackedBefore_28 : decode cX8_isPackedBefore 28 = .ok (.iaload, 1) := by decide +kernel
theorem dX8_isPackedBefore_29 : decode cX8_isPackedBefore 29 = .ok (.aload_n 0, 1) := by decide +kernel
theorem dX8_isPackedBefore_30 : decode cX8_isPackedBefore 30 = .ok (.getfield 17, 3) := by decide +kernel
theorem dX8_isPackedBefore_33 : decode cX8_isPackedBefore 33 = .ok (.iconst 4, 1) := by decide +kernel
theorem dX8_isPackedBefore_34 : decode cX8_isPackedBefore 34 = .ok (.iload_n 2, 1) := by decide +kernel
theorem dX8_isPackedBefore_35 : decode cX8_isPackedBefore 35 = .ok (.imul, 1) := by decide +kernel
theorem dX8_isPackedBefore_36 : decode cX8_isPackedBefore 36 = .ok (.iconst 2, 1) := by decide +kernel
theorem dX8_isPackedBefore_37 : decode cX8_isPackedBefore 37 = .ok (.iadd, 1) := by decide +kernel
theorem dX8_isPackedBefore_38 : decode cX8_isPackedBefore 38 = .ok (.iaload, 1) := by decide +kernel
theorem dX8_isPackedBefore_39 : decode cX8_isPackedBefore 39 = .ok (.iadd, 1) := by decide +kernel
theorem dX8_isPackedBefore_40 : decode cX8_isPackedBefore 40 = .ok (.istore 5, 2) := by decide +kernel
theorem dX8_isPackedBefore_42 : decode cX8_isPackedBefore 42 = .ok (.aload_n 0, 1) := by decide +kernel
theorem dX8_isPackedBefore_43 : decode cX8_isPackedBefore 43 = .ok (.getfield 17, 3) := by decide +kernel
theorem dX8_isPackedBefore_46 : decode cX8_isPackedBefore 46 = .ok (.iconst 4, 1) := by decide +kernel
theorem dX8_isPackedBefore_47 : decode cX8_isPackedBefore 47 = .ok (.iload_n 1, 1) := by decide +kernel
theorem dX8_isPackedBefore_48 : decode cX8_isPackedBefore 48 = .ok (.imul, 1) := by decide +kernel
theorem dX8_isPackedBefore_49 : decode cX8_isPackedBefore 49 = .ok (.iconst 1, 1) := by decide +kernel
theorem dX8_isPackedBefore_50 : decode cX8_isPackedBefore 50 = .ok (.iadd, 1) := by decide +kernel
theorem dX8_isPackedBefore_51 : decode cX8_isPackedBefore 51 = .ok (.iaload, 1) := by decide +kernel
theorem dX8_isPackedBefore_52 : decode cX8_isPackedBefore 52 = .ok (.aload_n 0, 1) := by decide +kernel
theorem dX8_isPackedBefore_53 : decode cX8_isPackedBefore 53 = .ok (.getfield 17, 3) := by decide +kernel
theorem dX8_isPackedBefore_56 : decode cX8_isPackedBefore 56 = .ok (.iconst 4, 1) := by decide +kernel
theorem dX8_isPackedBefore_57 : decode cX8_isPackedBefore 57 = .ok (.iload_n 1, 1) := by decide +kernel
theorem dX8_isPackedBefore_58 : decode cX8_isPackedBefore 58 = .ok (.imul, 1) := by decide +kernel
theorem dX8_isPackedBefore_59 : decode cX8_isPackedBefore 59 = .ok (.iconst 3, 1) := by decide +kernel
theorem dX8_isPackedBefore_60 : decode cX8_isPackedBefore 60 = .ok (.iadd, 1) := by decide +kernel
theorem dX8_isPackedBefore_61 : decode cX8_isPackedBefore 61 = .ok (.iaload, 1) := by decide +kernel
theorem dX8_isPackedBefore_62 : decode cX8_isPackedBefore 62 = .ok (.iadd, 1) := by decide +kernel
theorem dX8_isPackedBefore_63 : decode cX8_isPackedBefore 63 = .ok (.istore 6, 2) := by decide +kernel
theorem dX8_isPackedBefore_65 : decode cX8_isPackedBefore 65 = .ok (.aload_n 0, 1) := by decide +kernel
theorem dX8_isPackedBefore_66 : decode cX8_isPackedBefore 66 = .ok (.getfield 17, 3) := by decide +kernel
theorem dX8_isPackedBefore_69 : decode cX8_isPackedBefore 69 = .ok (.iconst 4, 1) := by decide +kernel
theorem dX8_isPackedBefore_70 : decode cX8_isPackedBefore 70 = .ok (.iload_n 2, 1) := by decide +kernel
theorem dX8_isPackedBefore_71 : decode cX8_isPackedBefore 71 = .ok (.imul, 1) := by decide +kernel
theorem dX8_isPackedBefore_72 : decode cX8_isPackedBefore 72 = .ok (.iconst 1, 1) := by decide +kernel
theorem dX8_isPackedBefore_73 : decode cX8_isPackedBefore 73 = .ok (.iadd, 1) := by decide +kernel
theorem dX8_isPackedBefore_74 : decode cX8_isPackedBefore 74 = .ok (.iaload, 1) := by decide +kernel
theorem dX8_isPackedBefore_75 : decode cX8_isPackedBefore 75 = .ok (.aload_n 0, 1) := by decide +kernel
theorem dX8_isPackedBefore_76 : decode cX8_isPackedBefore 76 = .ok (.getfield 17, 3) := by decide +kernel
theorem dX8_isPackedBefore_79 : decode cX8_isPackedBefore 79 = .ok (.iconst 4, 1) := by decide +kernel
theorem dX8_isPackedBefore_80 : decode cX8_isPackedBefore 80 = .ok (.iload_n 2, 1) := by decide +kernel
theorem dX8_isPackedBefore_81 : decode cX8_isPackedBefore 81 = .ok (.imul, 1) := by decide +kernel
theorem dX8_isPackedBefore_82 : decode cX8_isPackedBefore 82 = .ok (.iconst 3, 1) := by decide +kernel
theorem dX8_isPackedBefore_83 : decode cX8_isPackedBefore 83 = .ok (.iadd, 1) := by decide +kernel
theorem dX8_isPackedBefore_84 : decode cX8_isPackedBefore 84 = .ok (.iaload, 1) := by decide +kernel
theorem dX8_isPackedBefore_85 : decode cX8_isPackedBefore 85 = .ok (.iadd, 1) := by decide +kernel
theorem dX8_isPackedBefore_86 : decode cX8_isPackedBefore 86 = .ok (.istore 7, 2) := by decide +kernel
theorem dX8_isPackedBefore_88 : decode cX8_isPackedBefore 88 = .ok (.iload_n 3, 1) := by decide +kernel
theorem dX8_isPackedBefore_89 : decode cX8_isPackedBefore 89 = .ok (.ifCond .eq 23, 3) := by decide +kernel
theorem dX8_isPackedBefore_92 : decode cX8_isPackedBefore 92 = .ok (.iload 6, 2) := by decide +kernel
theorem dX8_isPackedBefore_94 : decode cX8_isPackedBefore 94 = .ok (.iload 7, 2) := by decide +kernel
theorem dX8_isPackedBefore_96 : decode cX8_isPackedBefore 96 = .ok (.if_icmp .eq 16, 3) := by decide +kernel
theorem dX8_isPackedBefore_99 : decode cX8_isPackedBefore 99 = .ok (.iload 6, 2) := by decide +kernel
theorem dX8_isPackedBefore_101 : decode cX8_isPackedBefore 101 = .ok (.iload 7, 2) := by decide +kernel
theorem dX8_isPackedBefore_103 : decode cX8_isPackedBefore 103 = .ok (.if_icmp .ge 7, 3) := by decide +kernel
theorem dX8_isPackedBefore_106 : decode cX8_isPackedBefore 106 = .ok (.iconst 1, 1) := by decide +kernel
theorem dX8_isPackedBefore_107 : decode cX8_isPackedBefore 107 = .ok (.goto 4, 3) := by decide +kernel
theorem dX8_isPackedBefore_110 : decode cX8_isPackedBefore 110 = .ok (.iconst 0, 1) := by decide +kernel
theorem dX8_isPackedBefore_111 : decode cX8_isPackedBefore 111 = .ok (.ireturn, 1) := by decide +kernel
theorem dX8_isPackedBefore_112 : decode cX8_isPackedBefore 112 = .ok (.iload 4, 2) := by decide +kernel
theorem dX8_isPackedBefore_114 : decode cX8_isPackedBefore 114 = .ok (.iload 5, 2) := by decide +kernel
theorem dX8_isPackedBefore_116 : decode cX8_isPackedBefore 116 = .ok (.if_icmp .eq 18, 3) := by decide +kernel
theorem dX8_isPackedBefore_119 : decode cX8_isPackedBefore 119 = .ok (.iload 4, 2) := by decide +kernel
theorem dX8_isPackedBefore_121 : decode cX8_isPackedBefore 121 = .ok (.iload 5, 2) := by decide +kernel
theorem dX8_isPackedBefore_123 : decode cX8_isPackedBefore 123 = .ok (.if_icmp .ge 7, 3) := by decide +kernel
theorem dX8_isPackedBefore_126 : decode cX8_isPackedBefore 126 = .ok (.iconst 1, 1) := by decide +kernel
theorem dX8_isPackedBefore_127 : decode cX8_isPackedBefore 127 = .ok (.goto 35, 3) := by decide +kernel
theorem dX8_isPackedBefore_130 : decode cX8_isPackedBefore 130 = .ok (.iconst 0, 1) := by decide +kernel
theorem dX8_isPackedBefore_131 : decode cX8_isPackedBefore 131 = .ok (.goto 31, 3) := by decide +kernel
theorem dX8_isPackedBefore_134 : decode cX8_isPackedBefore 134 = .ok (.iload 6, 2) := by decide +kernel
theorem dX8_isPackedBefore_136 : decode cX8_isPackedBefore 136 = .ok (.iload 7, 2) := by decide +kernel
theorem dX8_isPackedBefore_138 : decode cX8_isPackedBefore 138 = .ok (.if_icmp .eq 18, 3) := by decide +kernel
theorem dX8_isPackedBefore_141 : decode cX8_isPackedBefore 141 = .ok (.iload 6, 2) := by decide +kernel
theorem dX8_isPackedBefore_143 : decode cX8_isPackedBefore 143 = .ok (.iload 7, 2) := by decide +kernel
theorem dX8_isPackedBefore_145 : decode cX8_isPackedBefore 145 = .ok (.if_icmp .ge 7, 3) := by decide +kernel
theorem dX8_isPackedBefore_148 : decode cX8_isPackedBefore 148 = .ok (.iconst 1, 1) := by decide +kernel
theorem dX8_isPackedBefore_149 : decode cX8_isPackedBefore 149 = .ok (.goto 13, 3) := by decide +kernel
theorem dX8_isPackedBefore_152 : decode cX8_isPackedBefore 152 = .ok (.iconst 0, 1) := by decide +kernel
theorem dX8_isPackedBefore_153 : decode cX8_isPackedBefore 153 = .ok (.goto 9, 3) := by decide +kernel
theorem dX8_isPackedBefore_156 : decode cX8_isPackedBefore 156 = .ok (.aload_n 0, 1) := by decide +kernel
theorem dX8_isPackedBefore_157 : decode cX8_isPackedBefore 157 = .ok (.iload_n 1, 1) := by decide +kernel
theorem dX8_isPackedBefore_158 : decode cX8_isPackedBefore 158 = .ok (.iload_n 2, 1) := by decide +kernel
theorem dX8_isPackedBefore_159 : decode cX8_isPackedBefore 159 = .ok (.invokevirtual 231, 3) := by decide +kernel
theorem dX8_isPackedBefore_162 : decode cX8_isPackedBefore 162 = .ok (.ireturn, 1) := by decide +kernel
theorem dX8_sort_0 : decode cX8_sort 0 = .ok (.iload_n 1, 1) := by decide +kernel
theorem dX8_sort_1 : decode cX8_sort 1 = .ok (.istore 4, 2) := by decide +kernel
theorem dX8_sort_3 : decode cX8_sort 3 = .ok (.iload 4, 2) := by decide +kernel
theorem dX8_sort_5 : decode cX8_sort 5 = .ok (.iload_n 2, 1) := by decide +kernel
theorem dX8_sort_6 : decode cX8_sort 6 = .ok (.if_icmp .ge 78, 3) := by decide +kernel
theorem dX8_sort_9 : decode cX8_sort 9 = .ok (.aload_n 0, 1) := by decide +kernel
theorem dX8_sort_10 : decode cX8_sort 10 = .ok (.getfield 77, 3) := by decide +kernel
theorem dX8_sort_13 : decode cX8_sort 13 = .ok (.iload 4, 2) := by decide +kernel
theorem dX8_sort_15 : decode cX8_sort 15 = .ok (.iaload, 1) := by decide +kernel
theorem dX8_sort_16 : decode cX8_sort 16 = .ok (.istore 5, 2) := by decide +kernel
theorem dX8_sort_18 : decode cX8_sort 18 = .ok (.iload 4, 2) := by decide +kernel
theorem dX8_sort_20 : decode cX8_sort 20 = .ok (.istore 6, 2) := by decide +kernel
theorem dX8_sort_22 : decode cX8_sort 22 = .ok (.iload 6, 2) := by decide +kernel
theorem dX8_sort_24 : decode cX8_sort 24 = .ok (.iload_n 1, 1) := by decide +kernel
theorem dX8_sort_25 : decode cX8_sort 25 = .ok (.if_icmp .le 44, 3) := by decide +kernel
theorem dX8_sort_28 : decode cX8_sort 28 = .ok (.aload_n 0, 1) := by decide +kernel
theorem dX8_sort_29 : decode cX8_sort 29 = .ok (.iload 5, 2) := by decide +kernel
theorem dX8_sort_31 : decode cX8_sort 31 = .ok (.aload_n 0, 1) := by decide +kernel
theorem dX8_sort_32 : decode cX8_sort 32 = .ok (.getfield 77, 3) := by decide +kernel
theorem dX8_sort_35 : decode cX8_sort 35 = .ok (.iload 6, 2) := by decide +kernel
theorem dX8_sort_37 : decode cX8_sort 37 = .ok (.iconst 1, 1) := by decide +kernel
theorem dX8_sort_38 : decode cX8_sort 38 = .ok (.isub, 1) := by decide +kernel
theorem dX8_sort_39 : decode cX8_sort 39 = .ok (.iaload, 1) := by decide +kernel
theorem dX8_sort_40 : decode cX8_sort 40 = .ok (.iload_n 3, 1) := by decide +kernel
theorem dX8_sort_41 : decode cX8_sort 41 = .ok (.invokevirtual 260, 3) := by decide +kernel
theorem dX8_sort_44 : decode cX8_sort 44 = .ok (.ifCond .eq 25, 3) := by decide +kernel
theorem dX8_sort_47 : decode cX8_sort 47 = .ok (.aload_n 0, 1) := by decide +kernel
theorem dX8_sort_48 : decode cX8_sort 48 = .ok (.getfield 77, 3) := by decide +kernel
theorem dX8_sort_51 : decode cX8_sort 51 = .ok (.iload 6, 2) := by decide +kernel
theorem dX8_sort_53 : decode cX8_sort 53 = .ok (.aload_n 0, 1) := by decide +kernel
theorem dX8_sort_54 : decode cX8_sort 54 = .ok (.getfield 77, 3) := by decide +kernel
theorem dX8_sort_57 : decode cX8_sort 57 = .ok (.iload 6, 2) := by decide +kernel
theorem dX8_sort_59 : decode cX8_sort 59 = .ok (.iconst 1, 1) := by decide +kernel
theorem dX8_sort_60 : decode cX8_sort 60 = .ok (.isub, 1) := by decide +kernel
theorem dX8_sort_61 : decode cX8_sort 61 = .ok (.iaload, 1) := by decide +kernel
theorem dX8_sort_62 : decode cX8_sort 62 = .ok (.iastore, 1) := by decide +kernel
theorem dX8_sort_63 : decode cX8_sort 63 = .ok (.iinc 6 (-1), 3) := by decide +kernel
theorem dX8_sort_66 : decode cX8_sort 66 = .ok (.goto (-44), 3) := by decide +kernel
theorem dX8_sort_69 : decode cX8_sort 69 = .ok (.aload_n 0, 1) := by decide +kernel
theorem dX8_sort_70 : decode cX8_sort 70 = .ok (.getfield 77, 3) := by decide +kernel
theorem dX8_sort_73 : decode cX8_sort 73 = .ok (.iload 6, 2) := by decide +kernel
theorem dX8_sort_75 : decode cX8_sort 75 = .ok (.iload 5, 2) := by decide +kernel
theorem dX8_sort_77 : decode cX8_sort 77 = .ok (.iastore, 1) := by decide +kernel
theorem dX8_sort_78 : decode cX8_sort 78 = .ok (.iinc 4 1, 3) := by decide +kernel
theorem dX8_sort_81 : decode cX8_sort 81 = .ok (.goto (-78), 3) := by decide +kernel
theorem dX8_sort_84 : decode cX8_sort 84 = .ok (.return_, 1) := by decide +kernel
theorem dX8_pack_0 : decode cX8_pack 0 = .ok (.aload_n 0, 1) := by decide +kernel
theorem dX8_pack_1 : decode cX8_pack 1 = .ok (.iconst 0, 1) := by decide +kernel
theorem dX8_pack_2 : decode cX8_pack 2 = .ok (.putfield 184, 3) := by decide +kernel
theorem dX8_pack_5 : decode cX8_pack 5 = .ok (.iconst 0, 1) := by decide +kernel
theorem dX8_pack_6 : decode cX8_pack 6 = .ok (.istore_n 1, 1) := by decide +kernel
theorem dX8_pack_7 : decode cX8_pack 7 = .ok (.iconst 0, 1) := by decide +kernel
theorem dX8_pack_8 : decode cX8_pack 8 = .ok (.istore_n 2, 1) := by decide +kernel
theorem dX8_pack_9 : decode cX8_pack 9 = .ok (.iload_n 2, 1) := by decide +kernel
theorem dX8_pack_10 : decode cX8_pack 10 = .ok (.sipush 400, 3) := by decide +kernel
theorem dX8_pack_13 : decode cX8_pack 13 = .ok (.if_icmp .ge 28, 3) := by decide +kernel
theorem dX8_pack_16 : decode cX8_pack 16 = .ok (.aload_n 0, 1) := by decide +kernel
theorem dX8_pack_17 : decode cX8_pack 17 = .ok (.getfield 13, 3) := by decide +kernel
theorem dX8_pack_20 : decode cX8_pack 20 = .ok (.iload_n 2, 1) := by decide +kernel
theorem dX8_pack_21 : decode cX8_pack 21 = .ok (.iaload, 1) := by decide +kernel
theorem dX8_pack_22 : decode cX8_pack 22 = .ok (.ifCond .lt 13, 3) := by decide +kernel
theorem dX8_pack_25 : decode cX8_pack 25 = .ok (.aload_n 0, 1) := by decide +kernel
theorem dX8_pack_26 : decode cX8_pack 26 = .ok (.getfield 77, 3) := by decide +kernel
theorem dX8_pack_29 : decode cX8_pack 29 = .ok (.iload_n 1, 1) := by decide +kernel
theorem dX8_pack_30 : decode cX8_pack 30 = .ok (.iload_n 2, 1) := by decide +kernel
theorem dX8_pack_31 : decode cX8_pack 31 = .ok (.iastore, 1) := by decide +kernel
theorem dX8_pack_32 : decode cX8_pack 32 = .ok (.iinc 1 1, 3) := by decide +kernel
theorem dX8_pack_35 : decode cX8_pack 35 = .ok (.iinc 2 1, 3) := by decide +kernel
theorem dX8_pack_38 : decode cX8_pack 38 = .ok (.goto (-29), 3) := by decide +kernel
theorem dX8_pack_41 : decode cX8_pack 41 = .ok (.iconst 0, 1) := by decide +kernel
theorem dX8_pack_42 : decode cX8_pack 42 = .ok (.istore_n 2, 1) := by decide +kernel
theorem dX8_pack_43 : decode cX8_pack 43 = .ok (.iload_n 2, 1) := by decide +kernel
theorem dX8_pack_44 : decode cX8_pack 44 = .ok (.sipush 500, 3) := by decide +kernel
theorem dX8_pack_47 : decode cX8_pack 47 = .ok (.if_icmp .ge 17, 3) := by decide +kernel
theorem dX8_pack_50 : decode cX8_pack 50 = .ok (.aload_n 0, 1) := by decide +kernel
theorem dX8_pack_51 : decode cX8_pack 51 = .ok (.getfield 20, 3) := by decide +kernel
theorem dX8_pack_54 : decode cX8_pack 54 = .ok (.iload_n 2, 1) := by decide +kernel
theorem dX8_pack_55 : decode cX8_pack 55 = .ok (.bipush (-2), 2) := by decide +kernel
theorem dX8_pack_57 : decode cX8_pack 57 = .ok (.iastore, 1) := by decide +kernel
theorem dX8_pack_58 : decode cX8_pack 58 = .ok (.iinc 2 1, 3) := by decide +kernel
theorem dX8_pack_61 : decode cX8_pack 61 = .ok (.goto (-18), 3) := by decide +kernel
theorem dX8_pack_64 : decode cX8_pack 64 = .ok (.iload_n 1, 1) := by decide +kernel
theorem dX8_pack_65 : decode cX8_pack 65 = .ok (.ifCond .ne 14, 3) := by decide +kernel
theorem dX8_pack_68 : decode cX8_pack 68 = .ok (.aload_n 0, 1) := by decide +kernel
theorem dX8_pack_69 : decode cX8_pack 69 = .ok (.aload_n 0, 1) := by decide +kernel
theorem dX8_pack_70 : decode cX8_pack 70 = .ok (.iconst 0, 1) := by decide +kernel
theorem dX8_pack_71 : decode cX8_pack 71 = .ok (.invokevirtual 89, 3) := by decide +kernel
theorem dX8_pack_74 : decode cX8_pack 74 = .ok (.putfield 93, 3) := by decide +kernel
theorem dX8_pack_77 : decode cX8_pack 77 = .ok (.iconst 1, 1) := by decide +kernel
theorem dX8_pack_78 : decode cX8_pack 78 = .ok (.ireturn, 1) := by decide +kernel
theorem dX8_pack_79 : decode cX8_pack 79 = .ok (.aload_n 0, 1) := by decide +kernel
theorem dX8_pack_80 : decode cX8_pack 80 = .ok (.iconst 0, 1) := by decide +kernel
theorem dX8_pack_81 : decode cX8_pack 81 = .ok (.iload_n 1, 1) := by decide +kernel
theorem dX8_pack_82 : decode cX8_pack 82 = .ok (.iconst 0, 1) := by decide +kernel
theorem dX8_pack_83 : decode cX8_pack 83 = .ok (.invokevirtual 264, 3) := by decide +kernel
theorem dX8_pack_86 : decode cX8_pack 86 = .ok (.iload_n 1, 1) := by decide +kernel
theorem dX8_pack_87 : decode cX8_pack 87 = .ok (.aload_n 0, 1) := by decide +kernel
theorem dX8_pack_88 : decode cX8_pack 88 = .ok (.getfield 83, 3) := by decide +kernel
theorem dX8_pack_91 : decode cX8_pack 91 = .ok (.iadd, 1) := by decide +kernel
theorem dX8_pack_92 : decode cX8_pack 92 = .ok (.iconst 1, 1) := by decide +kernel
theorem dX8_pack_93 : decode cX8_pack 93 = .ok (.isub, 1) := by decide +kernel
theorem dX8_pack_94 : decode cX8_pack 94 = .ok (.aload_n 0, 1) := by decide +kernel
theorem dX8_pack_95 : decode cX8_pack 95 = .ok (.getfield 83, 3) := by decide +kernel
theorem dX8_pack_98 : decode cX8_pack 98 = .ok (.idiv, 1) := by decide +kernel
theorem dX8_pack_99 : decode cX8_pack 99 = .ok (.istore_n 2, 1) := by decide +kernel
theorem dX8_pack_100 : decode cX8_pack 100 = .ok (.iconst 1, 1) := by decide +kernel
theorem dX8_pack_101 : decode cX8_pack 101 = .ok (.istore_n 3, 1) := by decide +kernel
theorem dX8_pack_102 : decode cX8_pack 102 = .ok (.iload_n 3, 1) := by decide +kernel
theorem dX8_pack_103 : decode cX8_pack 103 = .ok (.iload_n 3, 1) := by decide +kernel
theorem dX8_pack_104 : decode cX8_pack 104 = .ok (.imul, 1) := by decide +kernel
theorem dX8_pack_105 : decode cX8_pack 105 = .ok (.iload_n 2, 1) := by decide +kernel
theorem dX8_pack_106 : decode cX8_pack 106 = .ok (.if_icmp .ge 9, 3) := by decide +kernel
theorem dX8_pack_109 : decode cX8_pack 109 = .ok (.iinc 3 1, 3) := by decide +kernel
theorem dX8_pack_112 : decode cX8_pack 112 = .ok (.goto (-10), 3) := by decide +kernel
theorem dX8_pack_115 : decode cX8_pack 115 = .ok (.iconst 0, 1) := by decide +kernel
theorem dX8_pack_116 : decode cX8_pack 116 = .ok (.istore 4, 2) := by decide +kernel
theorem dX8_pack_118 : decode cX8_pack 118 = .ok (.iload 4, 2) := by decide +kernel
theorem dX8_pack_120 : decode cX8_pack 120 = .ok (.iload_n 1, 1) := by decide +kernel
theorem dX8_pack_121 : decode cX8_pack 121 = .ok (.if_icmp .ge 37, 3) := by decide +kernel
theorem dX8_pack_124 : decode cX8_pack 124 = .ok (.aload_n 0, 1) := by decide +kernel
theorem dX8_pack_125 : decode cX8_pack 125 = .ok (.iload 4, 2) := by decide +kernel
theorem dX8_pack_127 : decode cX8_pack 127 = .ok (.iload_n 1, 1) := by decide +kernel
theorem dX8_pack_128 : decode cX8_pack 128 = .ok (.iload 4, 2) := by decide +kernel
theorem dX8_pack_130 : decode cX8_pack 130 = .ok (.iload_n 3, 1) := by decide +kernel
theorem dX8_pack_131 : decode cX8_pack 131 = .ok (.aload_n 0, 1) := by decide +kernel
theorem dX8_pack_132 : decode cX8_pack 132 = .ok (.getfield 83, 3) := by decide +kernel
theorem dX8_pack_135 : decode cX8_pack 135 = .ok (.imul, 1) := by decide +kernel
theorem dX8_pack_136 : decode cX8_pack 136 = .ok (.iadd, 1) := by decide +kernel
theorem dX8_pack_137 : decode cX8_pack 137 = .ok (.invokestatic 104, 3) := by decide +kernel
theorem dX8_pack_140 : decode cX8_pack 140 = .ok (.iconst 1, 1) := by decide +kernel
theorem dX8_pack_141 : decode cX8_pack 141 = .ok (.invokevirtual 264, 3) := by decide +kernel
theorem dX8_pack_144 : decode cX8_pack 144 = .ok (.iload 4, 2) := by decide +kernel
theorem dX8_pack_146 : decode cX8_pack 146 = .ok (.iload_n 3, 1) := by decide +kernel
theorem dX8_pack_147 : decode cX8_pack 147 = .ok (.aload_n 0, 1) := by decide +kernel
theorem dX8_pack_148 : decode cX8_pack 148 = .ok (.getfield 83, 3) := by decide +kernel
theorem dX8_pack_151 : decode cX8_pack 151 = .ok (.imul, 1) := by decide +kernel
theorem dX8_pack_152 : decode cX8_pack 152 = .ok (.iadd, 1) := by decide +kernel
theorem dX8_pack_153 : decode cX8_pack 153 = .ok (.istore 4, 2) := by decide +kernel
theorem dX8_pack_155 : decode cX8_pack 155 = .ok (.goto (-37), 3) := by decide +kernel
theorem dX8_pack_158 : decode cX8_pack 158 = .ok (.iconst 0, 1) := by decide +kernel
theorem dX8_pack_159 : decode cX8_pack 159 = .ok (.istore 4, 2) := by decide +kernel
theorem dX8_pack_161 : decode cX8_pack 161 = .ok (.iconst 0, 1) := by decide +kernel
theorem dX8_pack_162 : decode cX8_pack 162 = .ok (.istore 5, 2) := by decide +kernel
theorem dX8_pack_164 : decode cX8_pack 164 = .ok (.iload_n 1, 1) := by decide +kernel
theorem dX8_pack_165 : decode cX8_pack 165 = .ok (.istore 6, 2) := by decide +kernel
theorem dX8_pack_167 : decode cX8_pack 167 = .ok (.aload_n 0, 1) := by decide +kernel
theorem dX8_pack_168 : decode cX8_pack 168 = .ok (.iload 5, 2) := by decide +kernel
theorem dX8_pack_170 : decode cX8_pack 170 = .ok (.iload 6, 2) := by decide +kernel
theorem dX8_pack_172 : decode cX8_pack 172 = .ok (.invokevirtual 268, 3) := by decide +kernel
theorem dX8_pack_175 : decode cX8_pack 175 = .ok (.istore 6, 2) := by decide +kernel
theorem dX8_pack_177 : decode cX8_pack 177 = .ok (.iload 4, 2) := by decide +kernel
theorem dX8_pack_179 : decode cX8_pack 179 = .ok (.iload 6, 2) := by decide +kernel
theorem dX8_pack_181 : decode cX8_pack 181 = .ok (.iadd, 1) := by decide +kernel
theorem dX8_pack_182 : decode cX8_pack 182 = .ok (.istore 4, 2) := by decide +kernel
theorem dX8_pack_184 : decode cX8_pack 184 = .ok (.iinc 5 1, 3) := by decide +kernel
theorem dX8_pack_187 : decode cX8_pack 187 = .ok (.iload 6, 2) := by decide +kernel
theorem dX8_pack_189 : decode cX8_pack 189 = .ok (.iconst 1, 1) := by decide +kernel
theorem dX8_pack_190 : decode cX8_pack 190 = .ok (.if_icmp .gt (-23), 3) := by decide +kernel
theorem dX8_pack_193 : decode cX8_pack 193 = .ok (.aload_n 0, 1) := by decide +kernel
theorem dX8_pack_194 : decode cX8_pack 194 = .ok (.aload_n 0, 1) := by decide +kernel
theorem dX8_pack_195 : decode cX8_pack 195 = .ok (.getfield 77, 3) := by decide +kernel
theorem dX8_pack_198 : decode cX8_pack 198 = .ok (.iconst 0, 1) := by decide +kernel
theorem dX8_pack_199 : decode cX8_pack 199 = .ok (.iaload, 1) := by decide +kernel
theorem dX8_pack_200 : decode cX8_pack 200 = .ok (.putfield 93, 3) := by decide +kernel
theorem dX8_pack_203 : decode cX8_pack 203 = .ok (.aload_n 0, 1) := by decide +kernel
theorem dX8_pack_204 : decode cX8_pack 204 = .ok (.getfield 32, 3) := by decide +kernel
theorem dX8_pack_207 : decode cX8_pack 207 = .ok (.aload_n 0, 1) := by decide +kernel
theorem dX8_pack_208 : decode cX8_pack 208 = .ok (.getfield 93, 3) := by decide +kernel
theorem dX8_pack_211 : decode cX8_pack 211 = .ok (.bipush (-2), 2) := by decide +kernel
theorem dX8_pack_213 : decode cX8_pack 213 = .ok (.iastore, 1) := by decide +kernel
theorem dX8_pack_214 : decode cX8_pack 214 = .ok (.iload 4, 2) := by decide +kernel
theorem dX8_pack_216 : decode cX8_pack 216 = .ok (.ireturn, 1) := by decide +kernel
theorem dX8_layer_0 : decode cX8_layer 0 = .ok (.iconst 0, 1) := by decide +kernel
theorem dX8_layer_1 : decode cX8_layer 1 = .ok (.istore_n 3, 1) := by decide +kernel
theorem dX8_layer_2 : decode cX8_layer 2 = .ok (.iconst 0, 1) := by decide +kernel
theorem dX8_layer_3 : decode cX8_layer 3 = .ok (.istore 4, 2) := by decide +kernel
theorem dX8_layer_5 : decode cX8_layer 5 = .ok (.iload_n 2, 1) := by decide +kernel
theorem dX8_layer_6 : decode cX8_layer 6 = .ok (.istore 5, 2) := by decide +kernel
theorem dX8_layer_8 : decode cX8_layer 8 = .ok (.iload 5, 2) := by decide +kernel
theorem dX8_layer_10 : decode cX8_layer 10 = .ok (.ifCond .le 129, 3) := by decide +kernel
theorem dX8_layer_13 : decode cX8_layer 13 = .ok (.iload 5, 2) := by decide +kernel
theorem dX8_layer_15 : decode cX8_layer 15 = .ok (.aload_n 0, 1) := by decide +kernel
theorem dX8_layer_16 : decode cX8_layer 16 = .ok (.getfield 83, 3) := by decide +kernel
theorem dX8_layer_19 : decode cX8_layer 19 = .ok (.isub, 1) := by decide +kernel
theorem dX8_layer_20 : decode cX8_layer 20 = .ok (.istore 6, 2) := by decide +kernel
theorem dX8_layer_22 : decode cX8_layer 22 = .ok (.iload 5, 2) := by decide +kernel
theorem dX8_layer_24 : decode cX8_layer 24 = .ok (.aload_n 0, 1) := by decide +kernel
theorem dX8_layer_25 : decode cX8_layer 25 = .ok (.getfield 83, 3) := by decide +kernel
theorem dX8_layer_28 : decode cX8_layer 28 = .ok (.if_icmp .gt 8, 3) := by decide +kernel
theorem dX8_layer_31 : decode cX8_layer 31 = .ok (.iload 5, 2) := by decide +kernel
theorem dX8_layer_33 : decode cX8_layer 33 = .ok (.goto 31, 3) := by decide +kernel
theorem dX8_layer_36 : decode cX8_layer 36 = .ok (.iload 6, 2) := by decide +kernel
theorem dX8_layer_38 : decode cX8_layer 38 = .ok (.aload_n 0, 1) := by decide +kernel
theorem dX8_layer_39 : decode cX8_layer 39 = .ok (.getfield 86, 3) := by decide +kernel
theorem dX8_layer_42 : decode cX8_layer 42 = .ok (.if_icmp .ge 18, 3) := by decide +kernel
theorem dX8_layer_45 : decode cX8_layer 45 = .ok (.iload 6, 2) := by decide +kernel
theorem dX8_layer_47 : decode cX8_layer 47 = .ok (.ifCond .le 13, 3) := by decide +kernel
theorem dX8_layer_50 : decode cX8_layer 50 = .ok (.iload 5, 2) := by decide +kernel
theorem dX8_layer_52 : decode cX8_layer 52 = .ok (.aload_n 0, 1) := by decide +kernel
theorem dX8_layer_53 : decode cX8_layer 53 = .ok (.getfield 86, 3) := by decide +kernel
theorem dX8_layer_56 : decode cX8_layer 56 = .ok (.isub, 1) := by decide +kernel
theorem dX8_layer_57 : decode cX8_layer 57 = .ok (.goto 7, 3) := by decide +kernel
theorem dX8_layer_60 : decode cX8_layer 60 = .ok (.aload_n 0, 1) := by decide +kernel
theorem dX8_layer_61 : decode cX8_layer 61 = .ok (.getfield 83, 3) := by decide +kernel
theorem dX8_layer_64 : decode cX8_layer 64 = .ok (.istore 7, 2) := by decide +kernel
theorem dX8_layer_66 : decode cX8_layer 66 = .ok (.aload_n 0, 1) := by decide +kernel
theorem dX8_layer_67 : decode cX8_layer 67 = .ok (.iload_n 1, 1) := by decide +kernel
theorem dX8_layer_68 : decode cX8_layer 68 = .ok (.invokevirtual 89, 3) := by decide +kernel
theorem dX8_layer_71 : decode cX8_layer 71 = .ok (.istore 8, 2) := by decide +kernel
theorem dX8_layer_73 : decode cX8_layer 73 = .ok (.iconst 0, 1) := by decide +kernel
theorem dX8_layer_74 : decode cX8_layer 74 = .ok (.istore 9, 2) := by decide +kernel
theorem dX8_layer_76 : decode cX8_layer 76 = .ok (.iload 9, 2) := by decide +kernel
theorem dX8_layer_78 : decode cX8_layer 78 = .ok (.iload 7, 2) := by decide +kernel
theorem dX8_layer_80 : decode cX8_layer 80 = .ok (.if_icmp .ge 25, 3) := by decide +kernel
theorem dX8_layer_83 : decode cX8_layer 83 = .ok (.aload_n 0, 1) := by decide +kernel
theorem dX8_layer_84 : decode cX8_layer 84 = .ok (.iload 8, 2) := by decide +kernel
theorem dX8_layer_86 : decode cX8_layer 86 = .ok (.aload_n 0, 1) := by decide +kernel
theorem dX8_layer_87 : decode cX8_layer 87 = .ok (.getfield 77, 3) := by decide +kernel
theorem dX8_layer_90 : decode cX8_layer 90 = .ok (.iload 4, 2) := by decide +kernel
theorem dX8_layer_92 : decode cX8_layer 92 = .ok (.iload 9, 2) := by decide +kernel
theorem dX8_layer_94 : decode cX8_layer 94 = .ok (.iadd, 1) := by decide +kernel
theorem dX8_layer_95 : decode cX8_layer 95 = .ok (.iaload, 1) := by decide +kernel
theorem dX8_layer_96 : decode cX8_layer 96 = .ok (.invokevirtual 135, 3) := by decide +kernel
theorem dX8_layer_99 : decode cX8_layer 99 = .ok (.iinc 9 1, 3) := by decide +kernel
theorem dX8_layer_102 : decode cX8_layer 102 = .ok (.goto (-26), 3) := by decide +kernel
theorem dX8_layer_105 : decode cX8_layer 105 = .ok (.aload_n 0, 1) := by decide +kernel
theorem dX8_layer_106 : decode cX8_layer 106 = .ok (.iload 8, 2) := by decide +kernel
theorem dX8_layer_108 : decode cX8_layer 108 = .ok (.invokevirtual 118, 3) := by decide +kernel
theorem dX8_layer_111 : decode cX8_layer 111 = .ok (.iload 4, 2) := by decide +kernel
theorem dX8_layer_113 : decode cX8_layer 113 = .ok (.iload 7, 2) := by decide +kernel
theorem dX8_layer_115 : decode cX8_layer 115 = .ok (.iadd, 1) := by decide +kernel
theorem dX8_layer_116 : decode cX8_layer 116 = .ok (.istore 4, 2) := by decide +kernel
theorem dX8_layer_118 : decode cX8_layer 118 = .ok (.iload 5, 2) := by decide +kernel
theorem dX8_layer_120 : decode cX8_layer 120 = .ok (.iload 7, 2) := by decide +kernel
theorem dX8_layer_122 : decode cX8_layer 122 = .ok (.isub, 1) := by decide +kernel
theorem dX8_layer_123 : decode cX8_layer 123 = .ok (.istore 5, 2) := by decide +kernel
theorem dX8_layer_125 : decode cX8_layer 125 = .ok (.aload_n 0, 1) := by decide +kernel
theorem dX8_layer_126 : decode cX8_layer 126 = .ok (.getfield 80, 3) := by decide +kernel
theorem dX8_layer_129 : decode cX8_layer 129 = .ok (.iload_n 3, 1) := by decide +kernel
theorem dX8_layer_130 : decode cX8_layer 130 = .ok (.iload 8, 2) := by decide +kernel
theorem dX8_layer_132 : decode cX8_layer 132 = .ok (.iastore, 1) := by decide +kernel
theorem dX8_layer_133 : decode cX8_layer 133 = .ok (.iinc 3 1, 3) := by decide +kernel
theorem dX8_layer_136 : decode cX8_layer 136 = .ok (.goto (-128), 3) := by decide +kernel
theorem dX8_layer_139 : decode cX8_layer 139 = .ok (.iconst 0, 1) := by decide +kernel
theorem dX8_layer_140 : decode cX8_layer 140 = .ok (.istore 6, 2) := by decide +kernel
theorem dX8_layer_142 : decode cX8_layer 142 = .ok (.iload 6, 2) := by decide +kernel
theorem dX8_layer_144 : decode cX8_layer 144 = .ok (.iload_n 3, 1) := by decide +kernel
theorem dX8_layer_145 : decode cX8_layer 145 = .ok (.if_icmp .ge 23, 3) := by decide +kernel
theorem dX8_layer_148 : decode cX8_layer 148 = .ok (.aload_n 0, 1) := by decide +kernel
theorem dX8_layer_149 : decode cX8_layer 149 = .ok (.getfield 77, 3) := by decide +kernel
theorem dX8_layer_152 : decode cX8_layer 152 = .ok (.iload 6, 2) := by decide +kernel
theorem dX8_layer_154 : decode cX8_layer 154 = .ok (.aload_n 0, 1) := by decide +kernel
theorem dX8_layer_155 : decode cX8_layer 155 = .ok (.getfield 80, 3) := by decide +kernel
theorem dX8_layer_158 : decode cX8_layer 158 = .ok (.iload 6, 2) := by decide +kernel
theorem dX8_layer_160 : decode cX8_layer 160 = .ok (.iaload, 1) := by decide +kernel
theorem dX8_layer_161 : decode cX8_layer 161 = .ok (.iastore, 1) := by decide +kernel
theorem dX8_layer_162 : decode cX8_layer 162 = .ok (.iinc 6 1, 3) := by decide +kernel
theorem dX8_layer_165 : decode cX8_layer 165 = .ok (.goto (-23), 3) := by decide +kernel
theorem dX8_layer_168 : decode cX8_layer 168 = .ok (.iload_n 3, 1) := by decide +kernel
theorem dX8_layer_169 : decode cX8_layer 169 = .ok (.ireturn, 1) := by decide +kernel
theorem dX8_clear_0 : decode cX8_clear 0 = .ok (.aload_n 0, 1) := by decide +kernel
theorem dX8_clear_1 : decode cX8_clear 1 = .ok (.getfield 181, 3) := by decide +kernel
theorem dX8_clear_4 : decode cX8_clear 4 = .ok (.istore_n 1, 1) := by decide +kernel
theorem dX8_clear_5 : decode cX8_clear 5 = .ok (.aload_n 0, 1) := by decide +kernel
theorem dX8_clear_6 : decode cX8_clear 6 = .ok (.iconst 0, 1) := by decide +kernel
theorem dX8_clear_7 : decode cX8_clear 7 = .ok (.putfield 181, 3) := by decide +kernel
theorem dX8_clear_10 : decode cX8_clear 10 = .ok (.aload_n 0, 1) := by decide +kernel
theorem dX8_clear_11 : decode cX8_clear 11 = .ok (.iconst 0, 1) := by decide +kernel
theorem dX8_clear_12 : decode cX8_clear 12 = .ok (.putfield 184, 3) := by decide +kernel
theorem dX8_clear_15 : decode cX8_clear 15 = .ok (.iconst 0, 1) := by decide +kernel
theorem dX8_clear_16 : decode cX8_clear 16 = .ok (.istore_n 2, 1) := by decide +kernel
theorem dX8_clear_17 : decode cX8_clear 17 = .ok (.iload_n 2, 1) := by decide +kernel
theorem dX8_clear_18 : decode cX8_clear 18 = .ok (.sipush 400, 3) := by decide +kernel
theorem dX8_clear_21 : decode cX8_clear 21 = .ok (.if_icmp .gt 17, 3) := by decide +kernel
theorem dX8_clear_24 : decode cX8_clear 24 = .ok (.aload_n 0, 1) := by decide +kernel
theorem dX8_clear_25 : decode cX8_clear 25 = .ok (.getfield 13, 3) := by decide +kernel
theorem dX8_clear_28 : decode cX8_clear 28 = .ok (.iload_n 2, 1) := by decide +kernel
theorem dX8_clear_29 : decode cX8_clear 29 = .ok (.bipush (-2), 2) := by decide +kernel
theorem dX8_clear_31 : decode cX8_clear 31 = .ok (.iastore, 1) := by decide +kernel
theorem dX8_clear_32 : decode cX8_clear 32 = .ok (.iinc 2 1, 3) := by decide +kernel
theorem dX8_clear_35 : decode cX8_clear 35 = .ok (.goto (-18), 3) := by decide +kernel
theorem dX8_clear_38 : decode cX8_clear 38 = .ok (.iconst 0, 1) := by decide +kernel
theorem dX8_clear_39 : decode cX8_clear 39 = .ok (.istore_n 2, 1) := by decide +kernel
theorem dX8_clear_40 : decode cX8_clear 40 = .ok (.iload_n 2, 1) := by decide +kernel
theorem dX8_clear_41 : decode cX8_clear 41 = .ok (.sipush 500, 3) := by decide +kernel
theorem dX8_clear_44 : decode cX8_clear 44 = .ok (.if_icmp .ge 17, 3) := by decide +kernel
theorem dX8_clear_47 : decode cX8_clear 47 = .ok (.aload_n 0, 1) := by decide +kernel
theorem dX8_clear_48 : decode cX8_clear 48 = .ok (.getfield 20, 3) := by decide +kernel
theorem dX8_clear_51 : decode cX8_clear 51 = .ok (.iload_n 2, 1) := by decide +kernel
theorem dX8_clear_52 : decode cX8_clear 52 = .ok (.bipush (-2), 2) := by decide +kernel
theorem dX8_clear_54 : decode cX8_clear 54 = .ok (.iastore, 1) := by decide +kernel
theorem dX8_clear_55 : decode cX8_clear 55 = .ok (.iinc 2 1, 3) := by decide +kernel
theorem dX8_clear_58 : decode cX8_clear 58 = .ok (.goto (-18), 3) := by decide +kernel
theorem dX8_clear_61 : decode cX8_clear 61 = .ok (.aload_n 0, 1) := by decide +kernel
theorem dX8_clear_62 : decode cX8_clear 62 = .ok (.aload_n 0, 1) := by decide +kernel
theorem dX8_clear_63 : decode cX8_clear 63 = .ok (.iconst 0, 1) := by decide +kernel
theorem dX8_clear_64 : decode cX8_clear 64 = .ok (.invokevirtual 89, 3) := by decide +kernel
theorem dX8_clear_67 : decode cX8_clear 67 = .ok (.putfield 93, 3) := by decide +kernel
theorem dX8_clear_70 : decode cX8_clear 70 = .ok (.iload_n 1, 1) := by decide +kernel
theorem dX8_clear_71 : decode cX8_clear 71 = .ok (.ireturn, 1) := by decide +kernel
theorem dX8_count_0 : decode cX8_count 0 = .ok (.iload_n 1, 1) := by decide +kernel
theorem dX8_count_1 : decode cX8_count 1 = .ok (.tableswitch 98 0 7 #[47, 52, 64, 73, 78, 83, 88, 93], 47) := by decide +kernel
theorem dX8_count_48 : decode cX8_count 48 = .ok (.aload_n 0, 1) := by decide +kernel
theorem dX8_count_49 : decode cX8_count 49 = .ok (.getfield 181, 3) := by decide +kernel
theorem dX8_count_52 : decode cX8_count 52 = .ok (.ireturn, 1) := by decide +kernel
theorem dX8_count_53 : decode cX8_count 53 = .ok (.aload_n 0, 1) := by decide +kernel
theorem dX8_count_54 : decode cX8_count 54 = .ok (.getfield 20, 3) := by decide +kernel
theorem dX8_count_57 : decode cX8_count 57 = .ok (.aload_n 0, 1) := by decide +kernel
theorem dX8_count_58 : decode cX8_count 58 = .ok (.getfield 93, 3) := by decide +kernel
theorem dX8_count_61 : decode cX8_count 61 = .ok (.iaload, 1) := by decide +kernel
theorem dX8_count_62 : decode cX8_count 62 = .ok (.iconst 1, 1) := by decide +kernel
theorem dX8_count_63 : decode cX8_count 63 = .ok (.iadd, 1) := by decide +kernel
theorem dX8_count_64 : decode cX8_count 64 = .ok (.ireturn, 1) := by decide +kernel
theorem dX8_count_65 : decode cX8_count 65 = .ok (.aload_n 0, 1) := by decide +kernel
theorem dX8_count_66 : decode cX8_count 66 = .ok (.invokevirtual 235, 3) := by decide +kernel
theorem dX8_count_69 : decode cX8_count 69 = .ok (.aload_n 0, 1) := by decide +kernel
theorem dX8_count_70 : decode cX8_count 70 = .ok (.getfield 222, 3) := by decide +kernel
theorem dX8_count_73 : decode cX8_count 73 = .ok (.ireturn, 1) := by decide +kernel
theorem dX8_count_74 : decode cX8_count 74 = .ok (.aload_n 0, 1) := by decide +kernel
theorem dX8_count_75 : decode cX8_count 75 = .ok (.getfield 145, 3) := by decide +kernel
theorem dX8_count_78 : decode cX8_count 78 = .ok (.ireturn, 1) := by decide +kernel
theorem dX8_count_79 : decode cX8_count 79 = .ok (.aload_n 0, 1) := by decide +kernel
theorem dX8_count_80 : decode cX8_count 80 = .ok (.getfield 200, 3) := by decide +kernel
theorem dX8_count_83 : decode cX8_count 83 = .ok (.ireturn, 1) := by decide +kernel
theorem dX8_count_84 : decode cX8_count 84 = .ok (.aload_n 0, 1) := by decide +kernel
theorem dX8_count_85 : decode cX8_count 85 = .ok (.getfield 203, 3) := by decide +kernel
theorem dX8_count_88 : decode cX8_count 88 = .ok (.ireturn, 1) := by decide +kernel
theorem dX8_count_89 : decode cX8_count 89 = .ok (.aload_n 0, 1) := by decide +kernel
theorem dX8_count_90 : decode cX8_count 90 = .ok (.getfield 83, 3) := by decide +kernel
theorem dX8_count_93 : decode cX8_count 93 = .ok (.ireturn, 1) := by decide +kernel
theorem dX8_count_94 : decode cX8_count 94 = .ok (.aload_n 0, 1) := by decide +kernel
theorem dX8_count_95 : decode cX8_count 95 = .ok (.getfield 86, 3) := by decide +kernel
theorem dX8_count_98 : decode cX8_count 98 = .ok (.ireturn, 1) := by decide +kernel
theorem dX8_count_99 : decode cX8_count 99 = .ok (.iconst (-1), 1) := by decide +kernel
theorem dX8_count_100 : decode cX8_count 100 = .ok (.ireturn, 1) := by decide +kernel
theorem dX8_node__0 : decode cX8_node_ 0 = .ok (.aload_n 0, 1) := by decide +kernel
theorem dX8_node__1 : decode cX8_node_ 1 = .ok (.invokevirtual 235, 3) := by decide +kernel
theorem dX8_node__4 : decode cX8_node_ 4 = .ok (.iload_n 1, 1) := by decide +kernel
theorem dX8_node__5 : decode cX8_node_ 5 = .ok (.ifCond .lt 21, 3) := by decide +kernel
theorem dX8_node__8 : decode cX8_node_ 8 = .ok (.iload_n 1, 1) := by decide +kernel
theorem dX8_node__9 : decode cX8_node_ 9 = .ok (.aload_n 0, 1) := by decide +kernel
theorem dX8_node__10 : decode cX8_node_ 10 = .ok (.getfield 222, 3) := by decide +kernel
theorem dX8_node__13 : decode cX8_node_ 13 = .ok (.if_icmp .ge 13, 3) := by decide +kernel
theorem dX8_node__16 : decode cX8_node_ 16 = .ok (.iload_n 2, 1) := by decide +kernel
theorem dX8_node__17 : decode cX8_node_ 17 = .ok (.ifCond .lt 9, 3) := by decide +kernel
theorem dX8_node__20 : decode cX8_node_ 20 = .ok (.iload_n 2, 1) := by decide +kernel
theorem dX8_node__21 : decode cX8_node_ 21 = .ok (.bipush 6, 2) := by decide +kernel
theorem dX8_node__23 : decode cX8_node_ 23 = .ok (.if_icmp .le 5, 3) := by decide +kernel
theorem dX8_node__26 : decode cX8_node_ 26 = .ok (.iconst (-1), 1) := by decide +kernel
theorem dX8_node__27 : decode cX8_node_ 27 = .ok (.ireturn, 1) := by decide +kernel
theorem dX8_node__28 : decode cX8_node_ 28 = .ok (.aload_n 0, 1) := by decide +kernel
theorem dX8_node__29 : decode cX8_node_ 29 = .ok (.getfield 41, 3) := by decide +kernel
theorem dX8_node__32 : decode cX8_node_ 32 = .ok (.iload_n 1, 1) := by decide +kernel
theorem dX8_node__33 : decode cX8_node_ 33 = .ok (.iaload, 1) := by decide +kernel
theorem dX8_node__34 : decode cX8_node_ 34 = .ok (.istore_n 3, 1) := by decide +kernel
theorem dX8_node__35 : decode cX8_node_ 35 = .ok (.iload_n 2, 1) := by decide +kernel
theorem dX8_node__36 : decode cX8_node_ 36 = .ok (.iconst 1, 1) := by decide +kernel
theorem dX8_node__37 : decode cX8_node_ 37 = .ok (.if_icmp .le 35, 3) := by decide +kernel
theorem dX8_node__40 : decode cX8_node_ 40 = .ok (.iload_n 2, 1) := by decide +kernel
theorem dX8_node__41 : decode cX8_node_ 41 = .ok (.bipush 6, 2) := by decide +kernel
theorem dX8_node__43 : decode cX8_node_ 43 = .ok (.if_icmp .ge 29, 3) := by decide +kernel
theorem dX8_node__46 : decode cX8_node_ 46 = .ok (.aload_n 0, 1) := by decide +kernel
theorem dX8_node__47 : decode cX8_node_ 47 = .ok (.getfield 23, 3) := by decide +kernel
theorem dX8_node__50 : decode cX8_node_ 50 = .ok (.iload_n 3, 1) := by decide +kernel
theorem dX8_node__51 : decode cX8_node_ 51 = .ok (.iaload, 1) := by decide +kernel
theorem dX8_node__52 : decode cX8_node_ 52 = .ok (.ifCond .ne 7, 3) := by decide +kernel
theorem dX8_node__55 : decode cX8_node_ 55 = .ok (.iconst (-1), 1) := by decide +kernel
theorem dX8_node__56 : decode cX8_node_ 56 = .ok (.goto 15, 3) := by decide +kernel
theorem dX8_node__59 : decode cX8_node_ 59 = .ok (.aload_n 0, 1) := by decide +kernel
theorem dX8_node__60 : decode cX8_node_ 60 = .ok (.getfield 29, 3) := by decide +kernel
theorem dX8_node__63 : decode cX8_node_ 63 = .ok (.iconst 4, 1) := by decide +kernel
theorem dX8_node__64 : decode cX8_node_ 64 = .ok (.iload_n 3, 1) := by decide +kernel
theorem dX8_node__65 : decode cX8_node_ 65 = .ok (.imul, 1) := by decide +kernel
theorem dX8_node__66 : decode cX8_node_ 66 = .ok (.iload_n 2, 1) := by decide +kernel
theorem dX8_node__67 : decode cX8_node_ 67 = .ok (.iadd, 1) := by decide +kernel
theorem dX8_node__68 : decode cX8_node_ 68 = .ok (.iconst 2, 1) := by decide +kernel
theorem dX8_node__69 : decode cX8_node_ 69 = .ok (.isub, 1) := by decide +kernel
theorem dX8_node__70 : decode cX8_node_ 70 = .ok (.iaload, 1) := by decide +kernel
theorem dX8_node__71 : decode cX8_node_ 71 = .ok (.ireturn, 1) := by decide +kernel
theorem dX8_node__72 : decode cX8_node_ 72 = .ok (.iload_n 2, 1) := by decide +kernel
theorem dX8_node__73 : decode cX8_node_ 73 = .ok (.ifCond .ne 12, 3) := by decide +kernel
theorem dX8_node__76 : decode cX8_node_ 76 = .ok (.aload_n 0, 1) := by decide +kernel
theorem dX8_node__77 : decode cX8_node_ 77 = .ok (.getfield 20, 3) := by decide +kernel
theorem dX8_node__80 : decode cX8_node_ 80 = .ok (.iload_n 3, 1) := by decide +kernel
theorem dX8_node__81 : decode cX8_node_ 81 = .ok (.iaload, 1) := by decide +kernel
theorem dX8_node__82 : decode cX8_node_ 82 = .ok (.goto 41, 3) := by decide +kernel
theorem dX8_node__85 : decode cX8_node_ 85 = .ok (.iload_n 2, 1) := by decide +kernel
theorem dX8_node__86 : decode cX8_node_ 86 = .ok (.iconst 1, 1) := by decide +kernel
theorem dX8_node__87 : decode cX8_node_ 87 = .ok (.if_icmp .ne 12, 3) := by decide +kernel
theorem dX8_node__90 : decode cX8_node_ 90 = .ok (.aload_n 0, 1) := by decide +kernel
theorem dX8_node__91 : decode cX8_node_ 91 = .ok (.getfield 23, 3) := by decide +kernel
theorem dX8_node__94 : decode cX8_node_ 94 = .ok (.iload_n 3, 1) := by decide +kernel
theorem dX8_node__95 : decode cX8_node_ 95 = .ok (.iaload, 1) := by decide +kernel
theorem dX8_node__96 : decode cX8_node_ 96 = .ok (.goto 27, 3) := by decide +kernel
theorem dX8_node__99 : decode cX8_node_ 99 = .ok (.iload_n 3, 1) := by decide +kernel
theorem dX8_node__100 : decode cX8_node_ 100 = .ok (.aload_n 0, 1) := by decide +kernel
theorem dX8_node__101 : decode cX8_node_ 101 = .ok (.getfield 93, 3) := by decide +kernel
theorem dX8_node__104 : decode cX8_node_ 104 = .ok (.if_icmp .ne 8, 3) := by decide +kernel
theorem dX8_node__107 : decode cX8_node_ 107 = .ok (.bipush (-2), 2) := by decide +kernel
theorem dX8_node__109 : decode cX8_node_ 109 = .ok (.goto 14, 3) := by decide +kernel
theorem dX8_node__112 : decode cX8_node_ 112 = .ok (.aload_n 0, 1) := by decide +kernel
theorem dX8_node__113 : decode cX8_node_ 113 = .ok (.getfield 74, 3) := by decide +kernel
theorem dX8_node__116 : decode cX8_node_ 116 = .ok (.aload_n 0, 1) := by decide +kernel
theorem dX8_node__117 : decode cX8_node_ 117 = .ok (.getfield 32, 3) := by decide +kernel
theorem dX8_node__120 : decode cX8_node_ 120 = .ok (.iload_n 3, 1) := by decide +kernel
theorem dX8_node__121 : decode cX8_node_ 121 = .ok (.iaload, 1) := by decide +kernel
theorem dX8_node__122 : decode cX8_node_ 122 = .ok (.iaload, 1) := by decide +kernel
theorem dX8_node__123 : decode cX8_node_ 123 = .ok (.ireturn, 1) := by decide +kernel
theorem dX8_held_0 : decode cX8_held 0 = .ok (.aload_n 0, 1) := by decide +kernel
theorem dX8_held_1 : decode cX8_held 1 = .ok (.invokevirtual 235, 3) := by decide +kernel
theorem dX8_held_4 : decode cX8_held 4 = .ok (.iload_n 1, 1) := by decide +kernel
theorem dX8_held_5 : decode cX8_held 5 = .ok (.ifCond .lt 39, 3) := by decide +kernel
theorem dX8_held_8 : decode cX8_held 8 = .ok (.iload_n 1, 1) := by decide +kernel
theorem dX8_held_9 : decode cX8_held 9 = .ok (.aload_n 0, 1) := by decide +kernel
theorem dX8_held_10 : decode cX8_held 10 = .ok (.getfield 222, 3) := by decide +kernel
theorem dX8_held_13 : decode cX8_held 13 = .ok (.if_icmp .ge 31, 3) := by decide +kernel
theorem dX8_held_16 : decode cX8_held 16 = .ok (.iload_n 2, 1) := by decide +kernel
theorem dX8_held_17 : decode cX8_held 17 = .ok (.ifCond .lt 27, 3) := by decide +kernel
theorem dX8_held_20 : decode cX8_held 20 = .ok (.iload_n 2, 1) := by decide +kernel
theorem dX8_held_21 : decode cX8_held 21 = .ok (.aload_n 0, 1) := by decide +kernel
theorem dX8_held_22 : decode cX8_held 22 = .ok (.getfield 23, 3) := by decide +kernel
theorem dX8_held_25 : decode cX8_held 25 = .ok (.aload_n 0, 1) := by decide +kernel
theorem dX8_held_26 : decode cX8_held 26 = .ok (.getfield 41, 3) := by decide +kernel
theorem dX8_held_29 : decode cX8_held 29 = .ok (.iload_n 1, 1) := by decide +kernel
theorem dX8_held_30 : decode cX8_held 30 = .ok (.iaload, 1) := by decide +kernel
theorem dX8_held_31 : decode cX8_held 31 = .ok (.iaload, 1) := by decide +kernel
theorem dX8_held_32 : decode cX8_held 32 = .ok (.if_icmp .ge 12, 3) := by decide +kernel
theorem dX8_held_35 : decode cX8_held 35 = .ok (.iload_n 3, 1) := by decide +kernel
theorem dX8_held_36 : decode cX8_held 36 = .ok (.ifCond .lt 8, 3) := by decide +kernel
theorem dX8_held_39 : decode cX8_held 39 = .ok (.iload_n 3, 1) := by decide +kernel
theorem dX8_held_40 : decode cX8_held 40 = .ok (.iconst 4, 1) := by decide +kernel
theorem dX8_held_41 : decode cX8_held 41 = .ok (.if_icmp .le 5, 3) := by decide +kernel
theorem dX8_held_44 : decode cX8_held 44 = .ok (.iconst (-1), 1) := by decide +kernel
theorem dX8_held_45 : decode cX8_held 45 = .ok (.ireturn, 1) := by decide +kernel
theorem dX8_held_46 : decode cX8_held 46 = .ok (.aload_n 0, 1) := by decide +kernel
theorem dX8_held_47 : decode cX8_held 47 = .ok (.getfield 41, 3) := by decide +kernel
theorem dX8_held_50 : decode cX8_held 50 = .ok (.iload_n 1, 1) := by decide +kernel
theorem dX8_held_51 : decode cX8_held 51 = .ok (.iaload, 1) := by decide +kernel
theorem dX8_held_52 : decode cX8_held 52 = .ok (.istore 4, 2) := by decide +kernel
theorem dX8_held_54 : decode cX8_held 54 = .ok (.aload_n 0, 1) := by decide +kernel
theorem dX8_held_55 : decode cX8_held 55 = .ok (.iload 4, 2) := by decide +kernel
theorem dX8_held_57 : decode cX8_held 57 = .ok (.iload_n 2, 1) := by decide +kernel
theorem dX8_held_58 : decode cX8_held 58 = .ok (.invokevirtual 115, 3) := by decide +kernel
theorem dX8_held_61 : decode cX8_held 61 = .ok (.istore 5, 2) := by decide +kernel
theorem dX8_held_63 : decode cX8_held 63 = .ok (.iload_n 3, 1) := by decide +kernel
theorem dX8_held_64 : decode cX8_held 64 = .ok (.ifCond .le 24, 3) := by decide +kernel
theorem dX8_held_67 : decode cX8_held 67 = .ok (.aload_n 0, 1) := by decide +kernel
theorem dX8_held_68 : decode cX8_held 68 = .ok (.aload_n 0, 1) := by decide +kernel
theorem dX8_held_69 : decode cX8_held 69 = .ok (.getfield 20, 3) := by decide +kernel
theorem dX8_held_72 : decode cX8_held 72 = .ok (.iload 4, 2) := by decide +kernel
theorem dX8_held_74 : decode cX8_held 74 = .ok (.iaload, 1) := by decide +kernel
theorem dX8_held_75 : decode cX8_held 75 = .ok (.iconst 1, 1) := by decide +kernel
theorem dX8_held_76 : decode cX8_held 76 = .ok (.isub, 1) := by decide +kernel
theorem dX8_held_77 : decode cX8_held 77 = .ok (.iload 5, 2) := by decide +kernel
theorem dX8_held_79 : decode cX8_held 79 = .ok (.iload_n 3, 1) := by decide +kernel
theorem dX8_held_80 : decode cX8_held 80 = .ok (.iconst 1, 1) := by decide +kernel
theorem dX8_held_81 : decode cX8_held 81 = .ok (.isub, 1) := by decide +kernel
theorem dX8_held_82 : decode cX8_held 82 = .ok (.invokevirtual 96, 3) := by decide +kernel
theorem dX8_held_85 : decode cX8_held 85 = .ok (.goto 30, 3) := by decide +kernel
theorem dX8_held_88 : decode cX8_held 88 = .ok (.aload_n 0, 1) := by decide +kernel
theorem dX8_held_89 : decode cX8_held 89 = .ok (.getfield 20, 3) := by decide +kernel
theorem dX8_held_92 : decode cX8_held 92 = .ok (.iload 4, 2) := by decide +kernel
theorem dX8_held_94 : decode cX8_held 94 = .ok (.iaload, 1) := by decide +kernel
theorem dX8_held_95 : decode cX8_held 95 = .ok (.ifCond .ne 13, 3) := by decide +kernel
theorem dX8_held_98 : decode cX8_held 98 = .ok (.aload_n 0, 1) := by decide +kernel
theorem dX8_held_99 : decode cX8_held 99 = .ok (.getfield 13, 3) := by decide +kernel
theorem dX8_held_102 : decode cX8_held 102 = .ok (.iload 5, 2) := by decide +kernel
theorem dX8_held_104 : decode cX8_held 104 = .ok (.iaload, 1) := by decide +kernel
theorem dX8_held_105 : decode cX8_held 105 = .ok (.goto 10, 3) := by decide +kernel
theorem dX8_held_108 : decode cX8_held 108 = .ok (.aload_n 0, 1) := by decide +kernel
theorem dX8_held_109 : decode cX8_held 109 = .ok (.getfield 74, 3) := by decide +kernel
theorem dX8_held_112 : decode cX8_held 112 = .ok (.iload 5, 2) := by decide +kernel
theorem dX8_held_114 : decode cX8_held 114 = .ok (.iaload, 1) := by decide +kernel
theorem dX8_held_115 : decode cX8_held 115 = .ok (.ireturn, 1) := by decide +kernel
theorem dX8_audit_0 : decode cX8_audit 0 = .ok (.aload_n 0, 1) := by decide +kernel
theorem dX8_audit_1 : decode cX8_audit 1 = .ok (.invokevirtual 235, 3) := by decide +kernel
theorem dX8_audit_4 : decode cX8_audit 4 = .ok (.iconst 0, 1) := by decide +kernel
theorem dX8_audit_5 : decode cX8_audit 5 = .ok (.istore_n 1, 1) := by decide +kernel
theorem dX8_audit_6 : decode cX8_audit 6 = .ok (.iconst 0, 1) := by decide +kernel
theorem dX8_audit_7 : decode cX8_audit 7 = .ok (.istore_n 2, 1) := by decide +kernel
theorem dX8_audit_8 : decode cX8_audit 8 = .ok (.iload_n 2, 1) := by decide +kernel
theorem dX8_audit_9 : decode cX8_audit 9 = .ok (.aload_n 0, 1) := by decide +kernel
theorem dX8_audit_10 : decode cX8_audit 10 = .ok (.getfield 222, 3) := by decide +kernel
theorem dX8_audit_13 : decode cX8_audit 13 = .ok (.if_icmp .ge 213, 3) := by decide +kernel
theorem dX8_audit_16 : decode cX8_audit 16 = .ok (.aload_n 0, 1) := by decide +kernel
theorem dX8_audit_17 : decode cX8_audit 17 = .ok (.getfield 41, 3) := by decide +kernel
theorem dX8_audit_20 : decode cX8_audit 20 = .ok (.iload_n 2, 1) := by decide +kernel
theorem dX8_audit_21 : decode cX8_audit 21 = .ok (.iaload, 1) := by decide +kernel
theorem dX8_audit_22 : decode cX8_audit 22 = .ok (.istore_n 3, 1) := by decide +kernel
theorem dX8_audit_23 : decode cX8_audit 23 = .ok (.aload_n 0, 1) := by decide +kernel
theorem dX8_audit_24 : decode cX8_audit 24 = .ok (.getfield 23, 3) := by decide +kernel
theorem dX8_audit_27 : decode cX8_audit 27 = .ok (.iload_n 3, 1) := by decide +kernel
theorem dX8_audit_28 : decode cX8_audit 28 = .ok (.iaload, 1) := by decide +kernel
theorem dX8_audit_29 : decode cX8_audit 29 = .ok (.aload_n 0, 1) := by decide +kernel
theorem dX8_audit_30 : decode cX8_audit 30 = .ok (.getfield 83, 3) := by decide +kernel
theorem dX8_audit_33 : decode cX8_audit 33 = .ok (.if_icmp .gt 50, 3) := by decide +kernel
theorem dX8_audit_36 : decode cX8_audit 36 = .ok (.iload_n 3, 1) := by decide +kernel
theorem dX8_audit_37 : decode cX8_audit 37 = .ok (.aload_n 0, 1) := by decide +kernel
theorem dX8_audit_38 : decode cX8_audit 38 = .ok (.getfield 93, 3) := by decide +kernel
theorem dX8_audit_41 : decode cX8_audit 41 = .ok (.if_icmp .ne 25, 3) := by decide +kernel
theorem dX8_audit_44 : decode cX8_audit 44 = .ok (.aload_n 0, 1) := by decide +kernel
theorem dX8_audit_45 : decode cX8_audit 45 = .ok (.getfield 20, 3) := by decide +kernel
theorem dX8_audit_48 : decode cX8_audit 48 = .ok (.iload_n 3, 1) := by decide +kernel
theorem dX8_audit_49 : decode cX8_audit 49 = .ok (.iaload, 1) := by decide +kernel
theorem dX8_audit_50 : decode cX8_audit 50 = .ok (.ifCond .eq 29, 3) := by decide +kernel
theorem dX8_audit_53 : decode cX8_audit 53 = .ok (.aload_n 0, 1) := by decide +kernel
theorem dX8_audit_54 : decode cX8_audit 54 = .ok (.getfield 23, 3) := by decide +kernel
theorem dX8_audit_57 : decode cX8_audit 57 = .ok (.iload_n 3, 1) := by decide +kernel
theorem dX8_audit_58 : decode cX8_audit 58 = .ok (.iaload, 1) := by decide +kernel
theorem dX8_audit_59 : decode cX8_audit 59 = .ok (.iconst 2, 1) := by decide +kernel
theorem dX8_audit_60 : decode cX8_audit 60 = .ok (.if_icmp .lt 23, 3) := by decide +kernel
theorem dX8_audit_63 : decode cX8_audit 63 = .ok (.goto 16, 3) := by decide +kernel
theorem dX8_audit_66 : decode cX8_audit 66 = .ok (.aload_n 0, 1) := by decide +kernel
theorem dX8_audit_67 : decode cX8_audit 67 = .ok (.getfield 23, 3) := by decide +kernel
theorem dX8_audit_70 : decode cX8_audit 70 = .ok (.iload_n 3, 1) := by decide +kernel
theorem dX8_audit_71 : decode cX8_audit 71 = .ok (.iaload, 1) := by decide +kernel
theorem dX8_audit_72 : decode cX8_audit 72 = .ok (.aload_n 0, 1) := by decide +kernel
theorem dX8_audit_73 : decode cX8_audit 73 = .ok (.getfield 86, 3) := by decide +kernel
theorem dX8_audit_76 : decode cX8_audit 76 = .ok (.if_icmp .lt 7, 3) := by decide +kernel
theorem dX8_audit_79 : decode cX8_audit 79 = .ok (.iconst 1, 1) := by decide +kernel
theorem dX8_audit_80 : decode cX8_audit 80 = .ok (.goto 4, 3) := by decide +kernel
theorem dX8_audit_83 : decode cX8_audit 83 = .ok (.iconst 0, 1) := by decide +kernel
theorem dX8_audit_84 : decode cX8_audit 84 = .ok (.istore 4, 2) := by decide +kernel
theorem dX8_audit_86 : decode cX8_audit 86 = .ok (.iload 4, 2) := by decide +kernel
theorem dX8_audit_88 : decode cX8_audit 88 = .ok (.ifCond .ne 5, 3) := by decide +kernel
theorem dX8_audit_91 : decode cX8_audit 91 = .ok (.iconst 0, 1) := by decide +kernel
theorem dX8_audit_92 : decode cX8_audit 92 = .ok (.ireturn, 1) := by decide +kernel
theorem dX8_audit_93 : decode cX8_audit 93 = .ok (.iload_n 1, 1) := by decide +kernel
theorem dX8_audit_94 : decode cX8_audit 94 = .ok (.aload_n 0, 1) := by decide +kernel
theorem dX8_audit_95 : decode cX8_audit 95 = .ok (.getfield 20, 3) := by decide +kernel
theorem dX8_audit_98 : decode cX8_audit 98 = .ok (.iload_n 3, 1) := by decide +kernel
theorem dX8_audit_99 : decode cX8_audit 99 = .ok (.iaload, 1) := by decide +kernel
theorem dX8_audit_100 : decode cX8_audit 100 = .ok (.ifCond .ne 12, 3) := by decide +kernel
theorem dX8_audit_103 : decode cX8_audit 103 = .ok (.aload_n 0, 1) := by decide +kernel
theorem dX8_audit_104 : decode cX8_audit 104 = .ok (.getfield 23, 3) := by decide +kernel
theorem dX8_audit_107 : decode cX8_audit 107 = .ok (.iload_n 3, 1) := by decide +kernel
theorem dX8_audit_108 : decode cX8_audit 108 = .ok (.iaload, 1) := by decide +kernel
theorem dX8_audit_109 : decode cX8_audit 109 = .ok (.goto 4, 3) := by decide +kernel
theorem dX8_audit_112 : decode cX8_audit 112 = .ok (.iconst 0, 1) := by decide +kernel
theorem dX8_audit_113 : decode cX8_audit 113 = .ok (.iadd, 1) := by decide +kernel
theorem dX8_audit_114 : decode cX8_audit 114 = .ok (.istore_n 1, 1) := by decide +kernel
theorem dX8_audit_115 : decode cX8_audit 115 = .ok (.iconst 0, 1) := by decide +kernel
theorem dX8_audit_116 : decode cX8_audit 116 = .ok (.istore 5, 2) := by decide +kernel
theorem dX8_audit_118 : decode cX8_audit 118 = .ok (.iload 5, 2) := by decide +kernel
theorem dX8_audit_120 : decode cX8_audit 120 = .ok (.aload_n 0, 1) := by decide +kernel
theorem dX8_audit_121 : decode cX8_audit 121 = .ok (.getfield 23, 3) := by decide +kernel
theorem dX8_audit_124 : decode cX8_audit 124 = .ok (.iload_n 3, 1) := by decide +kernel
theorem dX8_audit_125 : decode cX8_audit 125 = .ok (.iaload, 1) := by decide +kernel
theorem dX8_audit_126 : decode cX8_audit 126 = .ok (.if_icmp .ge 94, 3) := by decide +kernel
theorem dX8_audit_129 : decode cX8_audit 129 = .ok (.aload_n 0, 1) := by decide +kernel
theorem dX8_audit_130 : decode cX8_audit 130 = .ok (.iload_n 3, 1) := by decide +kernel
theorem dX8_audit_131 : decode cX8_audit 131 = .ok (.iload 5, 2) := by decide +kernel
theorem dX8_audit_133 : decode cX8_audit 133 = .ok (.invokevirtual 115, 3) := by decide +kernel
theorem dX8_audit_136 : decode cX8_audit 136 = .ok (.istore 6, 2) := by decide +kernel
theorem dX8_audit_138 : decode cX8_audit 138 = .ok (.aload_n 0, 1) := by decide +kernel
theorem dX8_audit_139 : decode cX8_audit 139 = .ok (.getfield 20, 3) := by decide +kernel
theorem dX8_audit_142 : decode cX8_audit 142 = .ok (.iload_n 3, 1) := by decide +kernel
theorem dX8_audit_143 : decode cX8_audit 143 = .ok (.iaload, 1) := by decide +kernel
theorem dX8_audit_144 : decode cX8_audit 144 = .ok (.ifCond .le 32, 3) := by decide +kernel
theorem dX8_audit_147 : decode cX8_audit 147 = .ok (.aload_n 0, 1) := by decide +kernel
theorem dX8_audit_148 : decode cX8_audit 148 = .ok (.getfield 20, 3) := by decide +kernel
theorem dX8_audit_151 : decode cX8_audit 151 = .ok (.iload 6, 2) := by decide +kernel
theorem dX8_audit_153 : decode cX8_audit 153 = .ok (.iaload, 1) := by decide +kernel
theorem dX8_audit_154 : decode cX8_audit 154 = .ok (.aload_n 0, 1) := by decide +kernel
theorem dX8_audit_155 : decode cX8_audit 155 = .ok (.getfield 20, 3) := by decide +kernel
theorem dX8_audit_158 : decode cX8_audit 158 = .ok (.iload_n 3, 1) := by decide +kernel
theorem dX8_audit_159 : decode cX8_audit 159 = .ok (.iaload, 1) := by decide +kernel
theorem dX8_audit_160 : decode cX8_audit 160 = .ok (.iconst 1, 1) := by decide +kernel
theorem dX8_audit_161 : decode cX8_audit 161 = .ok (.isub, 1) := by decide +kernel
theorem dX8_audit_162 : decode cX8_audit 162 = .ok (.if_icmp .ne 50, 3) := by decide +kernel
theorem dX8_audit_165 : decode cX8_audit 165 = .ok (.aload_n 0, 1) := by decide +kernel
theorem dX8_audit_166 : decode cX8_audit 166 = .ok (.getfield 32, 3) := by decide +kernel
theorem dX8_audit_169 : decode cX8_audit 169 = .ok (.iload 6, 2) := by decide +kernel
theorem dX8_audit_171 : decode cX8_audit 171 = .ok (.iaload, 1) := by decide +kernel
theorem dX8_audit_172 : decode cX8_audit 172 = .ok (.iload_n 3, 1) := by decide +kernel
theorem dX8_audit_173 : decode cX8_audit 173 = .ok (.if_icmp .ne 39, 3) := by decide +kernel
theorem dX8_audit_176 : decode cX8_audit 176 = .ok (.aload_n 0, 1) := by decide +kernel
theorem dX8_audit_177 : decode cX8_audit 177 = .ok (.aload_n 0, 1) := by decide +kernel
theorem dX8_audit_178 : decode cX8_audit 178 = .ok (.getfield 20, 3) := by decide +kernel
theorem dX8_audit_181 : decode cX8_audit 181 = .ok (.iload_n 3, 1) := by decide +kernel
theorem dX8_audit_182 : decode cX8_audit 182 = .ok (.iaload, 1) := by decide +kernel
theorem dX8_audit_183 : decode cX8_audit 183 = .ok (.iload_n 3, 1) := by decide +kernel
theorem dX8_audit_184 : decode cX8_audit 184 = .ok (.aload_n 0, 1) := by decide +kernel
theorem dX8_audit_185 : decode cX8_audit 185 = .ok (.getfield 20, 3) := by decide +kernel
theorem dX8_audit_188 : decode cX8_audit 188 = .ok (.iload_n 3, 1) := by decide +kernel
theorem dX8_audit_189 : decode cX8_audit 189 = .ok (.iaload, 1) := by decide +kernel
theorem dX8_audit_190 : decode cX8_audit 190 = .ok (.iconst 1, 1) := by decide +kernel
theorem dX8_audit_191 : decode cX8_audit 191 = .ok (.isub, 1) := by decide +kernel
theorem dX8_audit_192 : decode cX8_audit 192 = .ok (.iload 6, 2) := by decide +kernel
theorem dX8_audit_194 : decode cX8_audit 194 = .ok (.invokevirtual 129, 3) := by decide +kernel
theorem dX8_audit_197 : decode cX8_audit 197 = .ok (.aload_n 0, 1) := by decide +kernel
theorem dX8_audit_198 : decode cX8_audit 198 = .ok (.aload_n 0, 1) := by decide +kernel
theorem dX8_audit_199 : decode cX8_audit 199 = .ok (.getfield 20, 3) := by decide +kernel
theorem dX8_audit_202 : decode cX8_audit 202 = .ok (.iload_n 3, 1) := by decide +kernel
theorem dX8_audit_203 : decode cX8_audit 203 = .ok (.iaload, 1) := by decide +kernel
theorem dX8_audit_204 : decode cX8_audit 204 = .ok (.iload_n 3, 1) := by decide +kernel
theorem dX8_audit_205 : decode cX8_audit 205 = .ok (.invokevirtual 125, 3) := by decide +kernel
theorem dX8_audit_208 : decode cX8_audit 208 = .ok (.lcmp, 1) := by decide +kernel
theorem dX8_audit_209 : decode cX8_audit 209 = .ok (.ifCond .eq 5, 3) := by decide +kernel
theorem dX8_audit_212 : decode cX8_audit 212 = .ok (.iconst 0, 1) := by decide +kernel
theorem dX8_audit_213 : decode cX8_audit 213 = .ok (.ireturn, 1) := by decide +kernel
theorem dX8_audit_214 : decode cX8_audit 214 = .ok (.iinc 5 1, 3) := by decide +kernel
theorem dX8_audit_217 : decode cX8_audit 217 = .ok (.goto (-99), 3) := by decide +kernel
theorem dX8_audit_220 : decode cX8_audit 220 = .ok (.iinc 2 1, 3) := by decide +kernel
theorem dX8_audit_223 : decode cX8_audit 223 = .ok (.goto (-215), 3) := by decide +kernel
theorem dX8_audit_226 : decode cX8_audit 226 = .ok (.iload_n 1, 1) := by decide +kernel
theorem dX8_audit_227 : decode cX8_audit 227 = .ok (.aload_n 0, 1) := by decide +kernel
theorem dX8_audit_228 : decode cX8_audit 228 = .ok (.getfield 181, 3) := by decide +kernel
theorem dX8_audit_231 : decode cX8_audit 231 = .ok (.if_icmp .ne 7, 3) := by decide +kernel
theorem dX8_audit_234 : decode cX8_audit 234 = .ok (.iconst 1, 1) := by decide +kernel
theorem dX8_audit_235 : decode cX8_audit 235 = .ok (.goto 4, 3) := by decide +kernel
theorem dX8_audit_238 : decode cX8_audit 238 = .ok (.iconst 0, 1) := by decide +kernel
theorem dX8_audit_239 : decode cX8_audit 239 = .ok (.ireturn, 1) := by decide +kernel
theorem dJ6_compare_7cf53_0 : decode cJ6_compare_7cf53 0 = .ok (.iload_n 0, 1) := by decide +kernel
theorem dJ6_compare_7cf53_1 : decode cJ6_compare_7cf53 1 = .ok (.iload_n 1, 1) := by decide +kernel
theorem dJ6_compare_7cf53_2 : decode cJ6_compare_7cf53 2 = .ok (.if_icmp .ge 7, 3) := by decide +kernel
theorem dJ6_compare_7cf53_5 : decode cJ6_compare_7cf53 5 = .ok (.iconst (-1), 1) := by decide +kernel
theorem dJ6_compare_7cf53_6 : decode cJ6_compare_7cf53 6 = .ok (.goto 13, 3) := by decide +kernel
theorem dJ6_compare_7cf53_9 : decode cJ6_compare_7cf53 9 = .ok (.iload_n 0, 1) := by decide +kernel
theorem dJ6_compare_7cf53_10 : decode cJ6_compare_7cf53 10 = .ok (.iload_n 1, 1) := by decide +kernel
theorem dJ6_compare_7cf53_11 : decode cJ6_compare_7cf53 11 = .ok (.if_icmp .ne 7, 3) := by decide +kernel
theorem dJ6_compare_7cf53_14 : decode cJ6_compare_7cf53 14 = .ok (.iconst 0, 1) := by decide +kernel
theorem dJ6_compare_7cf53_15 : decode cJ6_compare_7cf53 15 = .ok (.goto 4, 3) := by decide +kernel
theorem dJ6_compare_7cf53_18 : decode cJ6_compare_7cf53 18 = .ok (.iconst 1, 1) := by decide +kernel
theorem dJ6_compare_7cf53_19 : decode cJ6_compare_7cf53 19 = .ok (.ireturn, 1) := by decide +kernel
theorem dJ9_abs_0f7a4_0 : decode cJ9_abs_0f7a4 0 = .ok (.iload_n 0, 1) := by decide +kernel
theorem dJ9_abs_0f7a4_1 : decode cJ9_abs_0f7a4 1 = .ok (.ifCond .ge 8, 3) := by decide +kernel
theorem dJ9_abs_0f7a4_4 : decode cJ9_abs_0f7a4 4 = .ok (.iload_n 0, 1) := by decide +kernel
theorem dJ9_abs_0f7a4_5 : decode cJ9_abs_0f7a4 5 = .ok (.ineg, 1) := by decide +kernel
theorem dJ9_abs_0f7a4_6 : decode cJ9_abs_0f7a4 6 = .ok (.goto 4, 3) := by decide +kernel
theorem dJ9_abs_0f7a4_9 : decode cJ9_abs_0f7a4 9 = .ok (.iload_n 0, 1) := by decide +kernel
theorem dJ9_abs_0f7a4_10 : decode cJ9_abs_0f7a4 10 = .ok (.ireturn, 1) := by decide +kernel
theorem dJ9_max_7cf53_0 : decode cJ9_max_7cf53 0 = .ok (.iload_n 0, 1) := by decide +kernel
theorem dJ9_max_7cf53_1 : decode cJ9_max_7cf53 1 = .ok (.iload_n 1, 1) := by decide +kernel
theorem dJ9_max_7cf53_2 : decode cJ9_max_7cf53 2 = .ok (.if_icmp .lt 7, 3) := by decide +kernel
theorem dJ9_max_7cf53_5 : decode cJ9_max_7cf53 5 = .ok (.iload_n 0, 1) := by decide +kernel
theorem dJ9_max_7cf53_6 : decode cJ9_max_7cf53 6 = .ok (.goto 4, 3) := by decide +kernel
theorem dJ9_max_7cf53_9 : decode cJ9_max_7cf53 9 = .ok (.iload_n 1, 1) := by decide +kernel
theorem dJ9_max_7cf53_10 : decode cJ9_max_7cf53 10 = .ok (.ireturn, 1) := by decide +kernel
theorem dJ9_min_7cf53_0 : decode cJ9_min_7cf53 0 = .ok (.iload_n 0, 1) := by decide +kernel
theorem dJ9_min_7cf53_1 : decode cJ9_min_7cf53 1 = .ok (.iload_n 1, 1) := by decide +kernel
theorem dJ9_min_7cf53_2 : decode cJ9_min_7cf53 2 = .ok (.if_icmp .gt 7, 3) := by decide +kernel
theorem dJ9_min_7cf53_5 : decode cJ9_min_7cf53 5 = .ok (.iload_n 0, 1) := by decide +kernel
theorem dJ9_min_7cf53_6 : decode cJ9_min_7cf53 6 = .ok (.goto 4, 3) := by decide +kernel
theorem dJ9_min_7cf53_9 : decode cJ9_min_7cf53 9 = .ok (.iload_n 1, 1) := by decide +kernel
theorem dJ9_min_7cf53_10 : decode cJ9_min_7cf53 10 = .ok (.ireturn, 1) := by decide +kernel
theorem dL_cell_0 : decode cL_cell 0 = .ok (.iload_n 1, 1) := by decide +kernel
theorem dL_cell_1 : decode cL_cell 1 = .ok (.aload_n 0, 1) := by decide +kernel
theorem dL_cell_2 : decode cL_cell 2 = .ok (.arraylength, 1) := by decide +kernel
theorem dL_cell_3 : decode cL_cell 3 = .ok (.if_icmp .ge 9, 3) := by decide +kernel
theorem dL_cell_6 : decode cL_cell 6 = .ok (.aload_n 0, 1) := by decide +kernel
theorem dL_cell_7 : decode cL_cell 7 = .ok (.iload_n 1, 1) := by decide +kernel
theorem dL_cell_8 : decode cL_cell 8 = .ok (.iaload, 1) := by decide +kernel
theorem dL_cell_9 : decode cL_cell 9 = .ok (.goto 4, 3) := by decide +kernel
theorem dL_cell_12 : decode cL_cell 12 = .ok (.iconst 0, 1) := by decide +kernel
theorem dL_cell_13 : decode cL_cell 13 = .ok (.ireturn, 1) := by decide +kernel
theorem dL_law_0 : decode cL_law 0 = .ok (.new 7, 3) := by decide +kernel
theorem dL_law_3 : decode cL_law 3 = .ok (.dup, 1) := by decide +kernel
theorem dL_law_4 : decode cL_law 4 = .ok (.aload_n 0, 1) := by decide +kernel
theorem dL_law_5 : decode cL_law 5 = .ok (.iconst 0, 1) := by decide +kernel
theorem dL_law_6 : decode cL_law 6 = .ok (.invokestatic 9, 3) := by decide +kernel
theorem dL_law_9 : decode cL_law 9 = .ok (.aload_n 0, 1) := by decide +kernel
theorem dL_law_10 : decode cL_law 10 = .ok (.iconst 1, 1) := by decide +kernel
theorem dL_law_11 : decode cL_law 11 = .ok (.invokestatic 9, 3) := by decide +kernel
theorem dL_law_14 : decode cL_law 14 = .ok (.invokespecial 15, 3) := by decide +kernel
theorem dL_law_17 : decode cL_law 17 = .ok (.astore_n 1, 1) := by decide +kernel
theorem dL_law_18 : decode cL_law 18 = .ok (.new 18, 3) := by decide +kernel
theorem dL_law_21 : decode cL_law 21 = .ok (.dup, 1) := by decide +kernel
theorem dL_law_22 : decode cL_law 22 = .ok (.aload_n 0, 1) := by decide +kernel
theorem dL_law_23 : decode cL_law 23 = .ok (.iconst 0, 1) := by decide +kernel
theorem dL_law_24 : decode cL_law 24 = .ok (.invokestatic 9, 3) := by decide +kernel
theorem dL_law_27 : decode cL_law 27 = .ok (.aload_n 0, 1) := by decide +kernel
theorem dL_law_28 : decode cL_law 28 = .ok (.iconst 1, 1) := by decide +kernel
theorem dL_law_29 : decode cL_law 29 = .ok (.invokestatic 9, 3) := by decide +kernel
theorem dL_law_32 : decode cL_law 32 = .ok (.invokespecial 20, 3) := by decide +kernel
theorem dL_law_35 : decode cL_law 35 = .ok (.astore_n 2, 1) := by decide +kernel
theorem dL_law_36 : decode cL_law 36 = .ok (.iconst 2, 1) := by decide +kernel
theorem dL_law_37 : decode cL_law 37 = .ok (.istore_n 3, 1) := by decide +kernel
theorem dL_law_38 : decode cL_law 38 = .ok (.iload_n 3, 1) := by decide +kernel
theorem dL_law_39 : decode cL_law 39 = .ok (.aload_n 0, 1) := by decide +kernel
theorem dL_law_40 : decode cL_law 40 = .ok (.arraylength, 1) := by decide +kernel
theorem dL_law_41 : decode cL_law 41 = .ok (.bipush 6, 2) := by decide +kernel
theorem dL_law_43 : decode cL_law 43 = .ok (.isub, 1) := by decide +kernel
theorem dL_law_44 : decode cL_law 44 = .ok (.if_icmp .gt 565, 3) := by decide +kernel
theorem dL_law_47 : decode cL_law 47 = .ok (.aload_n 0, 1) := by decide +kernel
theorem dL_law_48 : decode cL_law 48 = .ok (.iload_n 3, 1) := by decide +kernel
theorem dL_law_49 : decode cL_law 49 = .ok (.iaload, 1) := by decide +kernel
theorem dL_law_50 : decode cL_law 50 = .ok (.bipush 15, 2) := by decide +kernel
theorem dL_law_52 : decode cL_law 52 = .ok (.iand, 1) := by decide +kernel
theorem dL_law_53 : decode cL_law 53 = .ok (.tableswitch 550 0 14 #[75, 138, 201, 254, 267, 320, 363, 376, 389, 412, 425, 438, 461, 494, 537], 75) := by decide +kernel
theorem dL_law_128 : decode cL_law 128 = .ok (.aload_n 1, 1) := by decide +kernel
theorem dL_law_129 : decode cL_law 129 = .ok (.aload_n 0, 1) := by decide +kernel
theorem dL_law_130 : decode cL_law 130 = .ok (.iload_n 3, 1) := by decide +kernel
theorem dL_law_131 : decode cL_law 131 = .ok (.iconst 1, 1) := by decide +kernel
theorem dL_law_132 : decode cL_law 132 = .ok (.iadd, 1) := by decide +kernel
theorem dL_law_133 : decode cL_law 133 = .ok (.iaload, 1) := by decide +kernel
theorem dL_law_134 : decode cL_law 134 = .ok (.aload_n 0, 1) := by decide +kernel
theorem dL_law_135 : decode cL_law 135 = .ok (.iload_n 3, 1) := by decide +kernel
theorem dL_law_136 : decode cL_law 136 = .ok (.iconst 2, 1) := by decide +kernel
theorem dL_law_137 : decode cL_law 137 = .ok (.iadd, 1) := by decide +kernel
theorem dL_law_138 : decode cL_law 138 = .ok (.iaload, 1) := by decide +kernel
theorem dL_law_139 : decode cL_law 139 = .ok (.aload_n 0, 1) := by decide +kernel
theorem dL_law_140 : decode cL_law 140 = .ok (.iload_n 3, 1) := by decide +kernel
theorem dL_law_141 : decode cL_law 141 = .ok (.iconst 3, 1) := by decide +kernel
theorem dL_law_142 : decode cL_law 142 = .ok (.iadd, 1) := by decide +kernel
theorem dL_law_143 : decode cL_law 143 = .ok (.iaload, 1) := by decide +kernel
theorem dL_law_144 : decode cL_law 144 = .ok (.aload_n 0, 1) := by decide +kernel
theorem dL_law_145 : decode cL_law 145 = .ok (.iload_n 3, 1) := by decide +kernel
theorem dL_law_146 : decode cL_law 146 = .ok (.iconst 4, 1) := by decide +kernel
theorem dL_law_147 : decode cL_law 147 = .ok (.iadd, 1) := by decide +kernel
theorem dL_law_148 : decode cL_law 148 = .ok (.iaload, 1) := by decide +kernel
theorem dL_law_149 : decode cL_law 149 = .ok (.aload_n 0, 1) := by decide +kernel
theorem dL_law_150 : decode cL_law 150 = .ok (.iload_n 3, 1) := by decide +kernel
theorem dL_law_151 : decode cL_law 151 = .ok (.iconst 5, 1) := by decide +kernel
theorem dL_law_152 : decode cL_law 152 = .ok (.iadd, 1) := by decide +kernel
theorem dL_law_153 : decode cL_law 153 = .ok (.iaload, 1) := by decide +kernel
theorem dL_law_154 : decode cL_law 154 = .ok (.invokevirtual 21, 3) := by decide +kernel
theorem dL_law_157 : decode cL_law 157 = .ok (.aload_n 2, 1) := by decide +kernel
theorem dL_law_158 : decode cL_law 158 = .ok (.aload_n 0, 1) := by decide +kernel
theorem dL_law_159 : decode cL_law 159 = .ok (.iload_n 3, 1) := by decide +kernel
theorem dL_law_160 : decode cL_law 160 = .ok (.iconst 1, 1) := by decide +kernel
theorem dL_law_161 : decode cL_law 161 = .ok (.iadd, 1) := by decide +kernel
theorem dL_law_162 : decode cL_law 162 = .ok (.iaload, 1) := by decide +kernel
theorem dL_law_163 : decode cL_law 163 = .ok (.aload_n 0, 1) := by decide +kernel
theorem dL_law_164 : decode cL_law 164 = .ok (.iload_n 3, 1) := by decide +kernel
theorem dL_law_165 : decode cL_law 165 = .ok (.iconst 2, 1) := by decide +kernel
theorem dL_law_166 : decode cL_law 166 = .ok (.iadd, 1) := by decide +kernel
theorem dL_law_167 : decode cL_law 167 = .ok (.iaload, 1) := by decide +kernel
theorem dL_law_168 : decode cL_law 168 = .ok (.aload_n 0, 1) := by decide +kernel
theorem dL_law_169 : decode cL_law 169 = .ok (.iload_n 3, 1) := by decide +kernel
theorem dL_law_170 : decode cL_law 170 = .ok (.iconst 3, 1) := by decide +kernel
theorem dL_law_171 : decode cL_law 171 = .ok (.iadd, 1) := by decide +kernel
theorem dL_law_172 : decode cL_law 172 = .ok (.iaload, 1) := by decide +kernel
theorem dL_law_173 : decode cL_law 173 = .ok (.aload_n 0, 1) := by decide +kernel
theorem dL_law_174 : decode cL_law 174 = .ok (.iload_n 3, 1) := by decide +kernel
theorem dL_law_175 : decode cL_law 175 = .ok (.iconst 4, 1) := by decide +kernel
theorem dL_law_176 : decode cL_law 176 = .ok (.iadd, 1) := by decide +kernel
theorem dL_law_177 : decode cL_law 177 = .ok (.iaload, 1) := by decide +kernel
theorem dL_law_178 : decode cL_law 178 = .ok (.aload_n 0, 1) := by decide +kernel
theorem dL_law_179 : decode cL_law 179 = .ok (.iload_n 3, 1) := by decide +kernel
theorem dL_law_180 : decode cL_law 180 = .ok (.iconst 5, 1) := by decide +kernel
theorem dL_law_181 : decode cL_law 181 = .ok (.iadd, 1) := by decide +kernel
theorem dL_law_182 : decode cL_law 182 = .ok (.iaload, 1) := by decide +kernel
theorem dL_law_183 : decode cL_law 183 = .ok (.invokevirtual 25, 3) := by decide +kernel
theorem dL_law_186 : decode cL_law 186 = .ok (.if_icmp .eq 417, 3) := by decide +kernel
theorem dL_law_189 : decode cL_law 189 = .ok (.iconst 0, 1) := by decide +kernel
theorem dL_law_190 : decode cL_law 190 = .ok (.ireturn, 1) := by decide +kernel
theorem dL_law_191 : decode cL_law 191 = .ok (.aload_n 1, 1) := by decide +kernel
theorem dL_law_192 : decode cL_law 192 = .ok (.aload_n 0, 1) := by decide +kernel
theorem dL_law_193 : decode cL_law 193 = .ok (.iload_n 3, 1) := by decide +kernel
theorem dL_law_194 : decode cL_law 194 = .ok (.iconst 1, 1) := by decide +kernel
theorem dL_law_195 : decode cL_law 195 = .ok (.iadd, 1) := by decide +kernel
theorem dL_law_196 : decode cL_law 196 = .ok (.iaload, 1) := by decide +kernel
theorem dL_law_197 : decode cL_law 197 = .ok (.aload_n 0, 1) := by decide +kernel
theorem dL_law_198 : decode cL_law 198 = .ok (.iload_n 3, 1) := by decide +kernel
theorem dL_law_199 : decode cL_law 199 = .ok (.iconst 2, 1) := by decide +kernel
theorem dL_law_200 : decode cL_law 200 = .ok (.iadd, 1) := by decide +kernel
theorem dL_law_201 : decode cL_law 201 = .ok (.iaload, 1) := by decide +kernel
theorem dL_law_202 : decode cL_law 202 = .ok (.aload_n 0, 1) := by decide +kernel
theorem dL_law_203 : decode cL_law 203 = .ok (.iload_n 3, 1) := by decide +kernel
theorem dL_law_204 : decode cL_law 204 = .ok (.iconst 3, 1) := by decide +kernel
theorem dL_law_205 : decode cL_law 205 = .ok (.iadd, 1) := by decide +kernel
theorem dL_law_206 : decode cL_law 206 = .ok (.iaload, 1) := by decide +kernel
theorem dL_law_207 : decode cL_law 207 = .ok (.aload_n 0, 1) := by decide +kernel
theorem dL_law_208 : decode cL_law 208 = .ok (.iload_n 3, 1) := by decide +kernel
theorem dL_law_209 : decode cL_law 209 = .ok (.iconst 4, 1) := by decide +kernel
theorem dL_law_210 : decode cL_law 210 = .ok (.iadd, 1) := by decide +kernel
theorem dL_law_211 : decode cL_law 211 = .ok (.iaload, 1) := by decide +kernel
theorem dL_law_212 : decode cL_law 212 = .ok (.aload_n 0, 1) := by decide +kernel
theorem dL_law_213 : decode cL_law 213 = .ok (.iload_n 3, 1) := by decide +kernel
theorem dL_law_214 : decode cL_law 214 = .ok (.iconst 5, 1) := by decide +kernel
theorem dL_law_215 : decode cL_law 215 = .ok (.iadd, 1) := by decide +kernel
theorem dL_law_216 : decode cL_law 216 = .ok (.iaload, 1) := by decide +kernel
theorem dL_law_217 : decode cL_law 217 = .ok (.invokevirtual 26, 3) := by decide +kernel
theorem dL_law_220 : decode cL_law 220 = .ok (.aload_n 2, 1) := by decide +kernel
theorem dL_law_221 : decode cL_law 221 = .ok (.aload_n 0, 1) := by decide +kernel
theorem dL_law_222 : decode cL_law 222 = .ok (.iload_n 3, 1) := by decide +kernel
theorem dL_law_223 : decode cL_law 223 = .ok (.iconst 1, 1) := by decide +kernel
theorem dL_law_224 : decode cL_law 224 = .ok (.iadd, 1) := by decide +kernel
theorem dL_law_225 : decode cL_law 225 = .ok (.iaload, 1) := by decide +kernel
theorem dL_law_226 : decode cL_law 226 = .ok (.aload_n 0, 1) := by decide +kernel
theorem dL_law_227 : decode cL_law 227 = .ok (.iload_n 3, 1) := by decide +kernel
theorem dL_law_228 : decode cL_law 228 = .ok (.iconst 2, 1) := by decide +kernel
theorem dL_law_229 : decode cL_law 229 = .ok (.iadd, 1) := by decide +kernel
theorem dL_law_230 : decode cL_law 230 = .ok (.iaload, 1) := by decide +kernel
theorem dL_law_231 : decode cL_law 231 = .ok (.aload_n 0, 1) := by decide +kernel
theorem dL_law_232 : decode cL_law 232 = .ok (.iload_n 3, 1) := by decide +kernel
theorem dL_law_233 : decode cL_law 233 = .ok (.iconst 3, 1) := by decide +kernel
theorem dL_law_234 : decode cL_law 234 = .ok (.iadd, 1) := by decide +kernel
theorem dL_law_235 : decode cL_law 235 = .ok (.iaload, 1) := by decide +kernel
theorem dL_law_236 : decode cL_law 236 = .ok (.aload_n 0, 1) := by decide +kernel
theorem dL_law_237 : decode cL_law 237 = .ok (.iload_n 3, 1) := by decide +kernel
theorem dL_law_238 : decode cL_law 238 = .ok (.iconst 4, 1) := by decide +kernel
theorem dL_law_239 : decode cL_law 239 = .ok (.iadd, 1) := by decide +kernel
theorem dL_law_240 : decode cL_law 240 = .ok (.iaload, 1) := by decide +kernel
theorem dL_law_241 : decode cL_law 241 = .ok (.aload_n 0, 1) := by decide +kernel
theorem dL_law_242 : decode cL_law 242 = .ok (.iload_n 3, 1) := by decide +kernel
theorem dL_law_243 : decode cL_law 243 = .ok (.iconst 5, 1) := by decide +kernel
theorem dL_law_244 : decode cL_law 244 = .ok (.iadd, 1) := by decide +kernel
theorem dL_law_245 : decode cL_law 245 = .ok (.iaload, 1) := by decide +kernel
theorem dL_law_246 : decode cL_law 246 = .ok (.invokevirtual 29, 3) := by decide +kernel
theorem dL_law_249 : decode cL_law 249 = .ok (.if_icmp .eq 354, 3) := by decide +kernel
theorem dL_law_252 : decode cL_law 252 = .ok (.iconst 0, 1) := by decide +kernel
theorem dL_law_253 : decode cL_law 253 = .ok (.ireturn, 1) := by decide +kernel
theorem dL_law_254 : decode cL_law 254 = .ok (.aload_n 1, 1) := by decide +kernel
theorem dL_law_255 : decode cL_law 255 = .ok (.aload_n 0, 1) := by decide +kernel
theorem dL_law_256 : decode cL_law 256 = .ok (.iload_n 3, 1) := by decide +kernel
theorem dL_law_257 : decode cL_law 257 = .ok (.iconst 1, 1) := by decide +kernel
theorem dL_law_258 : decode cL_law 258 = .ok (.iadd, 1) := by decide +kernel
theorem dL_law_259 : decode cL_law 259 = .ok (.iaload, 1) := by decide +kernel
theorem dL_law_260 : decode cL_law 260 = .ok (.aload_n 0, 1) := by decide +kernel
theorem dL_law_261 : decode cL_law 261 = .ok (.iload_n 3, 1) := by decide +kernel
theorem dL_law_262 : decode cL_law 262 = .ok (.iconst 2, 1) := by decide +kernel
theorem dL_law_263 : decode cL_law 263 = .ok (.iadd, 1) := by decide +kernel
theorem dL_law_264 : decode cL_law 264 = .ok (.iaload, 1) := by decide +kernel
theorem dL_law_265 : decode cL_law 265 = .ok (.aload_n 0, 1) := by decide +kernel
theorem dL_law_266 : decode cL_law 266 = .ok (.iload_n 3, 1) := by decide +kernel
theorem dL_law_267 : decode cL_law 267 = .ok (.iconst 3, 1) := by decide +kernel
theorem dL_law_268 : decode cL_law 268 = .ok (.iadd, 1) := by decide +kernel
theorem dL_law_269 : decode cL_law 269 = .ok (.iaload, 1) := by decide +kernel
theorem dL_law_270 : decode cL_law 270 = .ok (.aload_n 0, 1) := by decide +kernel
theorem dL_law_271 : decode cL_law 271 = .ok (.iload_n 3, 1) := by decide +kernel
theorem dL_law_272 : decode cL_law 272 = .ok (.iconst 4, 1) := by decide +kernel
theorem dL_law_273 : decode cL_law 273 = .ok (.iadd, 1) := by decide +kernel
theorem dL_law_274 : decode cL_law 274 = .ok (.iaload, 1) := by decide +kernel
theorem dL_law_275 : decode cL_law 275 = .ok (.invokevirtual 30, 3) := by decide +kernel
theorem dL_law_278 : decode cL_law 278 = .ok (.aload_n 2, 1) := by decide +kernel
theorem dL_law_279 : decode cL_law 279 = .ok (.aload_n 0, 1) := by decide +kernel
theorem dL_law_280 : decode cL_law 280 = .ok (.iload_n 3, 1) := by decide +kernel
theorem dL_law_281 : decode cL_law 281 = .ok (.iconst 1, 1) := by decide +kernel
theorem dL_law_282 : decode cL_law 282 = .ok (.iadd, 1) := by decide +kernel
theorem dL_law_283 : decode cL_law 283 = .ok (.iaload, 1) := by decide +kernel
theorem dL_law_284 : decode cL_law 284 = .ok (.aload_n 0, 1) := by decide +kernel
theorem dL_law_285 : decode cL_law 285 = .ok (.iload_n 3, 1) := by decide +kernel
theorem dL_law_286 : decode cL_law 286 = .ok (.iconst 2, 1) := by decide +kernel
theorem dL_law_287 : decode cL_law 287 = .ok (.iadd, 1) := by decide +kernel
theorem dL_law_288 : decode cL_law 288 = .ok (.iaload, 1) := by decide +kernel
theorem dL_law_289 : decode cL_law 289 = .ok (.aload_n 0, 1) := by decide +kernel
theorem dL_law_290 : decode cL_law 290 = .ok (.iload_n 3, 1) := by decide +kernel
theorem dL_law_291 : decode cL_law 291 = .ok (.iconst 3, 1) := by decide +kernel
theorem dL_law_292 : decode cL_law 292 = .ok (.iadd, 1) := by decide +kernel
theorem dL_law_293 : decode cL_law 293 = .ok (.iaload, 1) := by decide +kernel
theorem dL_law_294 : decode cL_law 294 = .ok (.aload_n 0, 1) := by decide +kernel
theorem dL_law_295 : decode cL_law 295 = .ok (.iload_n 3, 1) := by decide +kernel
theorem dL_law_296 : decode cL_law 296 = .ok (.iconst 4, 1) := by decide +kernel
theorem dL_law_297 : decode cL_law 297 = .ok (.iadd, 1) := by decide +kernel
theorem dL_law_298 : decode cL_law 298 = .ok (.iaload, 1) := by decide +kernel
theorem dL_law_299 : decode cL_law 299 = .ok (.invokevirtual 34, 3) := by decide +kernel
theorem dL_law_302 : decode cL_law 302 = .ok (.if_icmp .eq 301, 3) := by decide +kernel
theorem dL_law_305 : decode cL_law 305 = .ok (.iconst 0, 1) := by decide +kernel
theorem dL_law_306 : decode cL_law 306 = .ok (.ireturn, 1) := by decide +kernel
theorem dL_law_307 : decode cL_law 307 = .ok (.aload_n 1, 1) := by decide +kernel
theorem dL_law_308 : decode cL_law 308 = .ok (.invokevirtual 35, 3) := by decide +kernel
theorem dL_law_311 : decode cL_law 311 = .ok (.aload_n 2, 1) := by decide +kernel
theorem dL_law_312 : decode cL_law 312 = .ok (.invokevirtual 39, 3) := by decide +kernel
theorem dL_law_315 : decode cL_law 315 = .ok (.if_icmp .eq 288, 3) := by decide +kernel
theorem dL_law_318 : decode cL_law 318 = .ok (.iconst 0, 1) := by decide +kernel
theorem dL_law_319 : decode cL_law 319 = .ok (.ireturn, 1) := by decide +kernel
theorem dL_law_320 : decode cL_law 320 = .ok (.aload_n 1, 1) := by decide +kernel
theorem dL_law_321 : decode cL_law 321 = .ok (.aload_n 0, 1) := by decide +kernel
theorem dL_law_322 : decode cL_law 322 = .ok (.iload_n 3, 1) := by decide +kernel
theorem dL_law_323 : decode cL_law 323 = .ok (.iconst 1, 1) := by decide +kernel
theorem dL_law_324 : decode cL_law 324 = .ok (.iadd, 1) := by decide +kernel
theorem dL_law_325 : decode cL_law 325 = .ok (.iaload, 1) := by decide +kernel
theorem dL_law_326 : decode cL_law 326 = .ok (.aload_n 0, 1) := by decide +kernel
theorem dL_law_327 : decode cL_law 327 = .ok (.iload_n 3, 1) := by decide +kernel
theorem dL_law_328 : decode cL_law 328 = .ok (.iconst 2, 1) := by decide +kernel
theorem dL_law_329 : decode cL_law 329 = .ok (.iadd, 1) := by decide +kernel
theorem dL_law_330 : decode cL_law 330 = .ok (.iaload, 1) := by decide +kernel
theorem dL_law_331 : decode cL_law 331 = .ok (.aload_n 0, 1) := by decide +kernel
theorem dL_law_332 : decode cL_law 332 = .ok (.iload_n 3, 1) := by decide +kernel
theorem dL_law_333 : decode cL_law 333 = .ok (.iconst 3, 1) := by decide +kernel
theorem dL_law_334 : decode cL_law 334 = .ok (.iadd, 1) := by decide +kernel
theorem dL_law_335 : decode cL_law 335 = .ok (.iaload, 1) := by decide +kernel
theorem dL_law_336 : decode cL_law 336 = .ok (.aload_n 0, 1) := by decide +kernel
theorem dL_law_337 : decode cL_law 337 = .ok (.iload_n 3, 1) := by decide +kernel
theorem dL_law_338 : decode cL_law 338 = .ok (.iconst 4, 1) := by decide +kernel
theorem dL_law_339 : decode cL_law 339 = .ok (.iadd, 1) := by decide +kernel
theorem dL_law_340 : decode cL_law 340 = .ok (.iaload, 1) := by decide +kernel
theorem dL_law_341 : decode cL_law 341 = .ok (.invokevirtual 40, 3) := by decide +kernel
theorem dL_law_344 : decode cL_law 344 = .ok (.aload_n 2, 1) := by decide +kernel
theorem dL_law_345 : decode cL_law 345 = .ok (.aload_n 0, 1) := by decide +kernel
theorem dL_law_346 : decode cL_law 346 = .ok (.iload_n 3, 1) := by decide +kernel
theorem dL_law_347 : decode cL_law 347 = .ok (.iconst 1, 1) := by decide +kernel
theorem dL_law_348 : decode cL_law 348 = .ok (.iadd, 1) := by decide +kernel
theorem dL_law_349 : decode cL_law 349 = .ok (.iaload, 1) := by decide +kernel
theorem dL_law_350 : decode cL_law 350 = .ok (.aload_n 0, 1) := by decide +kernel
theorem dL_law_351 : decode cL_law 351 = .ok (.iload_n 3, 1) := by decide +kernel
theorem dL_law_352 : decode cL_law 352 = .ok (.iconst 2, 1) := by decide +kernel
theorem dL_law_353 : decode cL_law 353 = .ok (.iadd, 1) := by decide +kernel
theorem dL_law_354 : decode cL_law 354 = .ok (.iaload, 1) := by decide +kernel
theorem dL_law_355 : decode cL_law 355 = .ok (.aload_n 0, 1) := by decide +kernel
theorem dL_law_356 : decode cL_law 356 = .ok (.iload_n 3, 1) := by decide +kernel
theorem dL_law_357 : decode cL_law 357 = .ok (.iconst 3, 1) := by decide +kernel
theorem dL_law_358 : decode cL_law 358 = .ok (.iadd, 1) := by decide +kernel
theorem dL_law_359 : decode cL_law 359 = .ok (.iaload, 1) := by decide +kernel
theorem dL_law_360 : decode cL_law 360 = .ok (.aload_n 0, 1) := by decide +kernel
theorem dL_law_361 : decode cL_law 361 = .ok (.iload_n 3, 1) := by decide +kernel
theorem dL_law_362 : decode cL_law 362 = .ok (.iconst 4, 1) := by decide +kernel
theorem dL_law_363 : decode cL_law 363 = .ok (.iadd, 1) := by decide +kernel
theorem dL_law_364 : decode cL_law 364 = .ok (.iaload, 1) := by decide +kernel
theorem dL_law_365 : decode cL_law 365 = .ok (.invokevirtual 43, 3) := by decide +kernel
theorem dL_law_368 : decode cL_law 368 = .ok (.if_icmp .eq 235, 3) := by decide +kernel
theorem dL_law_371 : decode cL_law 371 = .ok (.iconst 0, 1) := by decide +kernel
theorem dL_law_372 : decode cL_law 372 = .ok (.ireturn, 1) := by decide +kernel
theorem dL_law_373 : decode cL_law 373 = .ok (.aload_n 1, 1) := by decide +kernel
theorem dL_law_374 : decode cL_law 374 = .ok (.aload_n 0, 1) := by decide +kernel
theorem dL_law_375 : decode cL_law 375 = .ok (.iload_n 3, 1) := by decide +kernel
theorem dL_law_376 : decode cL_law 376 = .ok (.iconst 1, 1) := by decide +kernel
theorem dL_law_377 : decode cL_law 377 = .ok (.iadd, 1) := by decide +kernel
theorem dL_law_378 : decode cL_law 378 = .ok (.iaload, 1) := by decide +kernel
theorem dL_law_379 : decode cL_law 379 = .ok (.aload_n 0, 1) := by decide +kernel
theorem dL_law_380 : decode cL_law 380 = .ok (.iload_n 3, 1) := by decide +kernel
theorem dL_law_381 : decode cL_law 381 = .ok (.iconst 2, 1) := by decide +kernel
theorem dL_law_382 : decode cL_law 382 = .ok (.iadd, 1) := by decide +kernel
theorem dL_law_383 : decode cL_law 383 = .ok (.iaload, 1) := by decide +kernel
theorem dL_law_384 : decode cL_law 384 = .ok (.aload_n 0, 1) := by decide +kernel
theorem dL_law_385 : decode cL_law 385 = .ok (.iload_n 3, 1) := by decide +kernel
theorem dL_law_386 : decode cL_law 386 = .ok (.iconst 3, 1) := by decide +kernel
theorem dL_law_387 : decode cL_law 387 = .ok (.iadd, 1) := by decide +kernel
theorem dL_law_388 : decode cL_law 388 = .ok (.iaload, 1) := by decide +kernel
theorem dL_law_389 : decode cL_law 389 = .ok (.invokevirtual 44, 3) := by decide +kernel
theorem dL_law_392 : decode cL_law 392 = .ok (.aload_n 2, 1) := by decide +kernel
theorem dL_law_393 : decode cL_law 393 = .ok (.aload_n 0, 1) := by decide +kernel
theorem dL_law_394 : decode cL_law 394 = .ok (.iload_n 3, 1) := by decide +kernel
theorem dL_law_395 : decode cL_law 395 = .ok (.iconst 1, 1) := by decide +kernel
theorem dL_law_396 : decode cL_law 396 = .ok (.iadd, 1) := by decide +kernel
theorem dL_law_397 : decode cL_law 397 = .ok (.iaload, 1) := by decide +kernel
theorem dL_law_398 : decode cL_law 398 = .ok (.aload_n 0, 1) := by decide +kernel
theorem dL_law_399 : decode cL_law 399 = .ok (.iload_n 3, 1) := by decide +kernel
theorem dL_law_400 : decode cL_law 400 = .ok (.iconst 2, 1) := by decide +kernel
theorem dL_law_401 : decode cL_law 401 = .ok (.iadd, 1) := by decide +kernel
theorem dL_law_402 : decode cL_law 402 = .ok (.iaload, 1) := by decide +kernel
theorem dL_law_403 : decode cL_law 403 = .ok (.aload_n 0, 1) := by decide +kernel
theorem dL_law_404 : decode cL_law 404 = .ok (.iload_n 3, 1) := by decide +kernel
theorem dL_law_405 : decode cL_law 405 = .ok (.iconst 3, 1) := by decide +kernel
theorem dL_law_406 : decode cL_law 406 = .ok (.iadd, 1) := by decide +kernel
theorem dL_law_407 : decode cL_law 407 = .ok (.iaload, 1) := by decide +kernel
theorem dL_law_408 : decode cL_law 408 = .ok (.invokevirtual 48, 3) := by decide +kernel
theorem dL_law_411 : decode cL_law 411 = .ok (.if_icmp .eq 192, 3) := by decide +kernel
theorem dL_law_414 : decode cL_law 414 = .ok (.iconst 0, 1) := by decide +kernel
theorem dL_law_415 : decode cL_law 415 = .ok (.ireturn, 1) := by decide +kernel
theorem dL_law_416 : decode cL_law 416 = .ok (.aload_n 1, 1) := by decide +kernel
theorem dL_law_417 : decode cL_law 417 = .ok (.invokevirtual 49, 3) := by decide +kernel
theorem dL_law_420 : decode cL_law 420 = .ok (.aload_n 2, 1) := by decide +kernel
theorem dL_law_421 : decode cL_law 421 = .ok (.invokevirtual 52, 3) := by decide +kernel
theorem dL_law_424 : decode cL_law 424 = .ok (.if_icmp .eq 179, 3) := by decide +kernel
theorem dL_law_427 : decode cL_law 427 = .ok (.iconst 0, 1) := by decide +kernel
theorem dL_law_428 : decode cL_law 428 = .ok (.ireturn, 1) := by decide +kernel
theorem dL_law_429 : decode cL_law 429 = .ok (.aload_n 1, 1) := by decide +kernel
theorem dL_law_430 : decode cL_law 430 = .ok (.invokevirtual 53, 3) := by decide +kernel
theorem dL_law_433 : decode cL_law 433 = .ok (.aload_n 2, 1) := by decide +kernel
theorem dL_law_434 : decode cL_law 434 = .ok (.invokevirtual 56, 3) := by decide +kernel
theorem dL_law_437 : decode cL_law 437 = .ok (.if_icmp .eq 166, 3) := by decide +kernel
theorem dL_law_440 : decode cL_law 440 = .ok (.iconst 0, 1) := by decide +kernel
theorem dL_law_441 : decode cL_law 441 = .ok (.ireturn, 1) := by decide +kernel
theorem dL_law_442 : decode cL_law 442 = .ok (.aload_n 1, 1) := by decide +kernel
theorem dL_law_443 : decode cL_law 443 = .ok (.aload_n 0, 1) := by decide +kernel
theorem dL_law_444 : decode cL_law 444 = .ok (.iload_n 3, 1) := by decide +kernel
theorem dL_law_445 : decode cL_law 445 = .ok (.iconst 1, 1) := by decide +kernel
theorem dL_law_446 : decode cL_law 446 = .ok (.iadd, 1) := by decide +kernel
theorem dL_law_447 : decode cL_law 447 = .ok (.iaload, 1) := by decide +kernel
theorem dL_law_448 : decode cL_law 448 = .ok (.invokevirtual 57, 3) := by decide +kernel
theorem dL_law_451 : decode cL_law 451 = .ok (.aload_n 2, 1) := by decide +kernel
theorem dL_law_452 : decode cL_law 452 = .ok (.aload_n 0, 1) := by decide +kernel
theorem dL_law_453 : decode cL_law 453 = .ok (.iload_n 3, 1) := by decide +kernel
theorem dL_law_454 : decode cL_law 454 = .ok (.iconst 1, 1) := by decide +kernel
theorem dL_law_455 : decode cL_law 455 = .ok (.iadd, 1) := by decide +kernel
theorem dL_law_456 : decode cL_law 456 = .ok (.iaload, 1) := by decide +kernel
theorem dL_law_457 : decode cL_law 457 = .ok (.invokevirtual 61, 3) := by decide +kernel
theorem dL_law_460 : decode cL_law 460 = .ok (.if_icmp .eq 143, 3) := by decide +kernel
theorem dL_law_463 : decode cL_law 463 = .ok (.iconst 0, 1) := by decide +kernel
theorem dL_law_464 : decode cL_law 464 = .ok (.ireturn, 1) := by decide +kernel
theorem dL_law_465 : decode cL_law 465 = .ok (.aload_n 1, 1) := by decide +kernel
theorem dL_law_466 : decode cL_law 466 = .ok (.invokevirtual 62, 3) := by decide +kernel
theorem dL_law_469 : decode cL_law 469 = .ok (.aload_n 2, 1) := by decide +kernel
theorem dL_law_470 : decode cL_law 470 = .ok (.invokevirtual 65, 3) := by decide +kernel
theorem dL_law_473 : decode cL_law 473 = .ok (.if_icmp .eq 130, 3) := by decide +kernel
theorem dL_law_476 : decode cL_law 476 = .ok (.iconst 0, 1) := by decide +kernel
theorem dL_law_477 : decode cL_law 477 = .ok (.ireturn, 1) := by decide +kernel
theorem dL_law_478 : decode cL_law 478 = .ok (.aload_n 1, 1) := by decide +kernel
theorem dL_law_479 : decode cL_law 479 = .ok (.invokevirtual 66, 3) := by decide +kernel
theorem dL_law_482 : decode cL_law 482 = .ok (.aload_n 2, 1) := by decide +kernel
theorem dL_law_483 : decode cL_law 483 = .ok (.invokevirtual 69, 3) := by decide +kernel
theorem dL_law_486 : decode cL_law 486 = .ok (.if_icmp .eq 117, 3) := by decide +kernel
theorem dL_law_489 : decode cL_law 489 = .ok (.iconst 0, 1) := by decide +kernel
theorem dL_law_490 : decode cL_law 490 = .ok (.ireturn, 1) := by decide +kernel
theorem dL_law_491 : decode cL_law 491 = .ok (.aload_n 1, 1) := by decide +kernel
theorem dL_law_492 : decode cL_law 492 = .ok (.aload_n 0, 1) := by decide +kernel
theorem dL_law_493 : decode cL_law 493 = .ok (.iload_n 3, 1) := by decide +kernel
theorem dL_law_494 : decode cL_law 494 = .ok (.iconst 1, 1) := by decide +kernel
theorem dL_law_495 : decode cL_law 495 = .ok (.iadd, 1) := by decide +kernel
theorem dL_law_496 : decode cL_law 496 = .ok (.iaload, 1) := by decide +kernel
theorem dL_law_497 : decode cL_law 497 = .ok (.invokevirtual 70, 3) := by decide +kernel
theorem dL_law_500 : decode cL_law 500 = .ok (.aload_n 2, 1) := by decide +kernel
theorem dL_law_501 : decode cL_law 501 = .ok (.aload_n 0, 1) := by decide +kernel
theorem dL_law_502 : decode cL_law 502 = .ok (.iload_n 3, 1) := by decide +kernel
theorem dL_law_503 : decode cL_law 503 = .ok (.iconst 1, 1) := by decide +kernel
theorem dL_law_504 : decode cL_law 504 = .ok (.iadd, 1) := by decide +kernel
theorem dL_law_505 : decode cL_law 505 = .ok (.iaload, 1) := by decide +kernel
theorem dL_law_506 : decode cL_law 506 = .ok (.invokevirtual 73, 3) := by decide +kernel
theorem dL_law_509 : decode cL_law 509 = .ok (.if_icmp .eq 94, 3) := by decide +kernel
theorem dL_law_512 : decode cL_law 512 = .ok (.iconst 0, 1) := by decide +kernel
theorem dL_law_513 : decode cL_law 513 = .ok (.ireturn, 1) := by decide +kernel
theorem dL_law_514 : decode cL_law 514 = .ok (.aload_n 1, 1) := by decide +kernel
theorem dL_law_515 : decode cL_law 515 = .ok (.aload_n 0, 1) := by decide +kernel
theorem dL_law_516 : decode cL_law 516 = .ok (.iload_n 3, 1) := by decide +kernel
theorem dL_law_517 : decode cL_law 517 = .ok (.iconst 1, 1) := by decide +kernel
theorem dL_law_518 : decode cL_law 518 = .ok (.iadd, 1) := by decide +kernel
theorem dL_law_519 : decode cL_law 519 = .ok (.iaload, 1) := by decide +kernel
theorem dL_law_520 : decode cL_law 520 = .ok (.aload_n 0, 1) := by decide +kernel
theorem dL_law_521 : decode cL_law 521 = .ok (.iload_n 3, 1) := by decide +kernel
theorem dL_law_522 : decode cL_law 522 = .ok (.iconst 2, 1) := by decide +kernel
theorem dL_law_523 : decode cL_law 523 = .ok (.iadd, 1) := by decide +kernel
theorem dL_law_524 : decode cL_law 524 = .ok (.iaload, 1) := by decide +kernel
theorem dL_law_525 : decode cL_law 525 = .ok (.invokevirtual 74, 3) := by decide +kernel
theorem dL_law_528 : decode cL_law 528 = .ok (.aload_n 2, 1) := by decide +kernel
theorem dL_law_529 : decode cL_law 529 = .ok (.aload_n 0, 1) := by decide +kernel
theorem dL_law_530 : decode cL_law 530 = .ok (.iload_n 3, 1) := by decide +kernel
theorem dL_law_531 : decode cL_law 531 = .ok (.iconst 1, 1) := by decide +kernel
theorem dL_law_532 : decode cL_law 532 = .ok (.iadd, 1) := by decide +kernel
theorem dL_law_533 : decode cL_law 533 = .ok (.iaload, 1) := by decide +kernel
theorem dL_law_534 : decode cL_law 534 = .ok (.aload_n 0, 1) := by decide +kernel
theorem dL_law_535 : decode cL_law 535 = .ok (.iload_n 3, 1) := by decide +kernel
theorem dL_law_536 : decode cL_law 536 = .ok (.iconst 2, 1) := by decide +kernel
theorem dL_law_537 : decode cL_law 537 = .ok (.iadd, 1) := by decide +kernel
theorem dL_law_538 : decode cL_law 538 = .ok (.iaload, 1) := by decide +kernel
theorem dL_law_539 : decode cL_law 539 = .ok (.invokevirtual 78, 3) := by decide +kernel
theorem dL_law_542 : decode cL_law 542 = .ok (.if_icmp .eq 61, 3) := by decide +kernel
theorem dL_law_545 : decode cL_law 545 = .ok (.iconst 0, 1) := by decide +kernel
theorem dL_law_546 : decode cL_law 546 = .ok (.ireturn, 1) := by decide +kernel
theorem dL_law_547 : decode cL_law 547 = .ok (.aload_n 1, 1) := by decide +kernel
theorem dL_law_548 : decode cL_law 548 = .ok (.aload_n 0, 1) := by decide +kernel
theorem dL_law_549 : decode cL_law 549 = .ok (.iload_n 3, 1) := by decide +kernel
theorem dL_law_550 : decode cL_law 550 = .ok (.iconst 1, 1) := by decide +kernel
theorem dL_law_551 : decode cL_law 551 = .ok (.iadd, 1) := by decide +kernel
theorem dL_law_552 : decode cL_law 552 = .ok (.iaload, 1) := by decide +kernel
theorem dL_law_553 : decode cL_law 553 = .ok (.aload_n 0, 1) := by decide +kernel
theorem dL_law_554 : decode cL_law 554 = .ok (.iload_n 3, 1) := by decide +kernel
theorem dL_law_555 : decode cL_law 555 = .ok (.iconst 2, 1) := by decide +kernel
theorem dL_law_556 : decode cL_law 556 = .ok (.iadd, 1) := by decide +kernel
theorem dL_law_557 : decode cL_law 557 = .ok (.iaload, 1) := by decide +kernel
theorem dL_law_558 : decode cL_law 558 = .ok (.aload_n 0, 1) := by decide +kernel
theorem dL_law_559 : decode cL_law 559 = .ok (.iload_n 3, 1) := by decide +kernel
theorem dL_law_560 : decode cL_law 560 = .ok (.iconst 3, 1) := by decide +kernel
theorem dL_law_561 : decode cL_law 561 = .ok (.iadd, 1) := by decide +kernel
theorem dL_law_562 : decode cL_law 562 = .ok (.iaload, 1) := by decide +kernel
theorem dL_law_563 : decode cL_law 563 = .ok (.invokevirtual 79, 3) := by decide +kernel
theorem dL_law_566 : decode cL_law 566 = .ok (.aload_n 2, 1) := by decide +kernel
theorem dL_law_567 : decode cL_law 567 = .ok (.aload_n 0, 1) := by decide +kernel
theorem dL_law_568 : decode cL_law 568 = .ok (.iload_n 3, 1) := by decide +kernel
theorem dL_law_569 : decode cL_law 569 = .ok (.iconst 1, 1) := by decide +kernel
theorem dL_law_570 : decode cL_law 570 = .ok (.iadd, 1) := by decide +kernel
theorem dL_law_571 : decode cL_law 571 = .ok (.iaload, 1) := by decide +kernel
theorem dL_law_572 : decode cL_law 572 = .ok (.aload_n 0, 1) := by decide +kernel
theorem dL_law_573 : decode cL_law 573 = .ok (.iload_n 3, 1) := by decide +kernel
theorem dL_law_574 : decode cL_law 574 = .ok (.iconst 2, 1) := by decide +kernel
theorem dL_law_575 : decode cL_law 575 = .ok (.iadd, 1) := by decide +kernel
theorem dL_law_576 : decode cL_law 576 = .ok (.iaload, 1) := by decide +kernel
theorem dL_law_577 : decode cL_law 577 = .ok (.aload_n 0, 1) := by decide +kernel
theorem dL_law_578 : decode cL_law 578 = .ok (.iload_n 3, 1) := by decide +kernel
theorem dL_law_579 : decode cL_law 579 = .ok (.iconst 3, 1) := by decide +kernel
theorem dL_law_580 : decode cL_law 580 = .ok (.iadd, 1) := by decide +kernel
theorem dL_law_581 : decode cL_law 581 = .ok (.iaload, 1) := by decide +kernel
theorem dL_law_582 : decode cL_law 582 = .ok (.invokevirtual 82, 3) := by decide +kernel
theorem dL_law_585 : decode cL_law 585 = .ok (.if_icmp .eq 18, 3) := by decide +kernel
theorem dL_law_588 : decode cL_law 588 = .ok (.iconst 0, 1) := by decide +kernel
theorem dL_law_589 : decode cL_law 589 = .ok (.ireturn, 1) := by decide +kernel
theorem dL_law_590 : decode cL_law 590 = .ok (.aload_n 1, 1) := by decide +kernel
theorem dL_law_591 : decode cL_law 591 = .ok (.invokevirtual 83, 3) := by decide +kernel
theorem dL_law_594 : decode cL_law 594 = .ok (.aload_n 2, 1) := by decide +kernel
theorem dL_law_595 : decode cL_law 595 = .ok (.invokevirtual 87, 3) := by decide +kernel
theorem dL_law_598 : decode cL_law 598 = .ok (.if_icmp .eq 5, 3) := by decide +kernel
theorem dL_law_601 : decode cL_law 601 = .ok (.iconst 0, 1) := by decide +kernel
theorem dL_law_602 : decode cL_law 602 = .ok (.ireturn, 1) := by decide +kernel
theorem dL_law_603 : decode cL_law 603 = .ok (.iinc 3 6, 3) := by decide +kernel
theorem dL_law_606 : decode cL_law 606 = .ok (.goto (-568), 3) := by decide +kernel
theorem dL_law_609 : decode cL_law 609 = .ok (.iconst 1, 1) := by decide +kernel
theorem dL_law_610 : decode cL_law 610 = .ok (.ireturn, 1) := by decide +kernel
end
section
/-- the tables' words that stay good at every call -/
def vl_tbl : List Cond := lw_tbl.filter goodWord
theorem vl_in {w : Cond} (i : Nat) (h : lw_tbl[i]? = some w) (hg : goodWord w = true) : w ∈ vl_tbl := List.mem_filter.mpr ⟨List.mem_of_getElem? h, hg⟩
/-! ===== The logic of the methods: values and memory as whole numbers; V: from here the method comes to its end with Post ===== -/
/-- memory: cell, index, value -/
abbrev vl_M : Type := Nat → Int → Int
/-- the shape of a cell: an int array of that length, or an object of that class with a code for each field (0 int, 1 long, k + 2 the cell k) -/
abbrev vl_Sh : Type := Nat → Nat ⊕ (Nat × List Nat)
/-- a method: its name, code, locals, answer -/
abbrev vl_K : Type := MethodName × ByteArray × Nat × Option FieldType
def vl_iv (x : Int) : Value := .int (Int32.ofInt x)
def vl_jv (x : Int) : Value := .long (Int64.ofInt x)
def vl_rz (ad : Nat → Nat) : Value → Value
  | .ref h => .ref (ad h)
  | v => v
def vl_g (μ ρ : vl_M) (h : Nat) (j : Int) : Int := if h < 23 then μ h j else ρ h j
def vl_fv (ad : Nat → Nat) (x : Int) (c : Nat) : Value := match c with
  | 0 => .int (Int32.ofInt x)
  | 1 => .long (Int64.ofInt x)
  | k + 2 => .ref (ad k)
def vl_cell (S : vl_Sh) (cA : ClassId) (ad : Nat → Nat) (μ ρ : vl_M) (h : Nat) : va_E := match S h with
  | .inl n => .inl (cA, n, .inl (fun j => Int32.ofInt (vl_g μ ρ h (j : Int))))
  | .inr q => .inr (q.1, q.2.mapIdx (fun k c => vl_fv ad (vl_g μ ρ h (k : Int)) c))
def vl_ws (nc : Nat) (S : vl_Sh) (cA : ClassId) (ad : Nat → Nat) (μ ρ : vl_M) : va_W := (List.range nc).map (fun h => (ad h, vl_cell S cA ad μ ρ h))
/-- one value changes -/
def vl_up (μ : vl_M) (h : Nat) (i v : Int) : vl_M := fun k j => if k = h ∧ j = i then v else μ k j
def vl_gp (j : Nat) : Value := .int (Int32.ofInt (if j = 0 then 121 else if j = 1 then 40 else if j = 2 then 13 else if j = 3 then 4 else 1))
/-- what is read only: the script (cell 101), the steps of the sort (cell 100) -/
def vl_Ro (sc : Nat × (Nat → Int32)) (ad : Nat → Nat) (A : Nat → Prop) (s : State) : Prop := va_X (ad 101) sc.1 sc.2 s s.heap ∧ ad 101 < s.heap.size ∧ ¬ A (ad 101) ∧ va_Z "AreaTree$Packer" "GAPS" "[I" (.ref (ad 100)) A s s.heap ∧ va_T .int (ad 100) 5 vl_gp A s s.heap
def vl_Rl (nc : Nat) (S : vl_Sh) (sc : Nat × (Nat → Int32)) (D : va_G) (cA : ClassId) (ad : Nat → Nat) (A : Nat → Prop) (s : State) (μ ρ : vl_M) (H : Heap) (locs : List Loc) : Prop :=
  va_P D vwCl (vl_ws nc S cA ad μ ρ) H ∧ va_D A (vl_ws nc S cA ad μ ρ) ∧ va_K D vwCl [(cA, .int)] s ∧ va_S A s.heap H locs ∧ vl_Ro sc ad A s
def vl_rv (ret : Option FieldType) (r : Int) : Option Value := match ret with
  | none => none
  | some .long => some (vl_jv r)
  | some _ => some (vl_iv r)
/-- the method's return instruction stands at pc and takes r -/
def vl_Rt (K : vl_K) (pc : Nat) (r : Int) : Prop := match K.2.2.2 with
  | none => decode K.2.1 pc = .ok (.return_, 1)
  | some .int => decode K.2.1 pc = .ok (.ireturn, 1)
  | some .boolean => decode K.2.1 pc = .ok (.ireturn, 1) ∧ (r = 0 ∨ r = 1)
  | some .long => decode K.2.1 pc = .ok (.lreturn, 1)
  | _ => False
def vl_Cx (K : vl_K) (d : Nat) (p : Program) (R : Room) (s : State) (m : MethodId) (args : Array Value) (meth : Method) (c : Code) : Prop :=
  p.tables.exec = Jvm.exec ∧ c.code = K.2.1 ∧ c.maxLocals = K.2.2.1 ∧ s.vm.findClass K.1.cls = some m.cls ∧ (∀ w ∈ vl_tbl, w.before args s = true) ∧ meth.sig.returnType = K.2.2.2 ∧ d ≤ R.frames ∧ 40 * d ≤ R.locals ∧ meth.locks = false
def vl_V (nc : Nat) (S : vl_Sh) (sc : Nat × (Nat → Int32)) (K : vl_K) (d : Nat) (Post : Int → vl_M → vl_M → Prop) (pc : Nat) (lv : List (Nat × Value)) (st : List Value) (μ ρ : vl_M) : Prop :=
  ∀ (p : Program) (l : Launch) (e : Env) (R : Room) (s : State) (m : MethodId) (args : Array Value) (below : List Frame) (meth : Method) (c : Code) (H : Heap) (locs : List Loc) (cells slots : Nat) (Q : State → Prop) (D : va_G) (cA : ClassId) (ad : Nat → Nat) (A : Nat → Prop) (ls : Array Slot),
    vl_Cx K d p R s m args meth c → cells ≤ R.cells ∧ slots ≤ R.slots → vl_Rl nc S sc D cA ad A s μ ρ H locs → lv_has ls K.2.2.1 (lv.map (fun q => (q.1, vl_rz ad q.2))) →
    (∀ (r : Int) (μ' ρ' : vl_M) (H' : Heap) (locs' : List Loc) (pc' : Nat) (ls' : Array Slot), Post r μ' ρ' → vl_Rl nc S sc D cA ad A s μ' ρ' H' locs' → vl_Rt K pc' r → W p l e R s m args below meth c H' locs' cells slots Q (F0 m pc' ls' (vl_rv K.2.2.2 r).toList)) →
    W p l e R s m args below meth c H locs cells slots Q (F0 m pc ls (st.map (vl_rz ad)))
/-- the code's own number: it ends, and with P -/
def vl_ok {α : Type} (P : α → Prop) (E : Option α) : Prop := ∃ a, E = some a ∧ P a
/-- what must hold for the machine not to throw, or for a whole number to be the machine's -/
def vl_gd {α : Type} (c : Prop) [Decidable c] (E : Option α) : Option α := if c then E else none
def vl_lt {α β : Type} (x : β) (E : β → Option α) : Option α := E x
def vl_jn {α β : Type} (k : β) (E : β → Option α) : Option α := E k
abbrev vl_r32 (x : Int) : Prop := -2147483648 ≤ x ∧ x < 2147483648
abbrev vl_r64 (x : Int) : Prop := -9223372036854775808 ≤ x ∧ x < 9223372036854775808
theorem vl_ok_gd {α : Type} {P : α → Prop} {c : Prop} [Decidable c] {E : Option α} (h : vl_ok P (vl_gd c E)) : c ∧ vl_ok P E := by
  obtain ⟨a, h1, h2⟩ := h
  unfold vl_gd at h1
  by_cases hc : c
  · rw [if_pos hc] at h1; exact ⟨hc, a, h1, h2⟩
  · rw [if_neg hc] at h1; cases h1
end
section
section VLR
variable {nc : Nat} {S : vl_Sh} {sc : Nat × (Nat → Int32)} {K : vl_K} {d : Nat} {Post : Int → vl_M → vl_M → Prop} {pc : Nat} {lv : List (Nat × Value)} {st : List Value} {μ ρ : vl_M}
theorem vl_r32_toInt {x : Int} (h : vl_r32 x) : (Int32.ofInt x).toInt = x := Int32.toInt_ofInt_of_le h.1 h.2
theorem vl_r64_toInt {x : Int} (h : vl_r64 x) : (Int64.ofInt x).toInt = x := Int64.toInt_ofInt_of_le h.1 h.2
theorem vl_eq32 {x y : Int} (hx : vl_r32 x) (hy : vl_r32 y) : Int32.ofInt x = Int32.ofInt y ↔ x = y := by
  rw [← Int32.toInt_inj, vl_r32_toInt hx, vl_r32_toInt hy]
theorem vl_lt32 {x y : Int} (hx : vl_r32 x) (hy : vl_r32 y) : Int32.ofInt x < Int32.ofInt y ↔ x < y := by
  rw [Int32.lt_iff_toInt_lt, vl_r32_toInt hx, vl_r32_toInt hy]
theorem vl_le32 {x y : Int} (hx : vl_r32 x) (hy : vl_r32 y) : Int32.ofInt x ≤ Int32.ofInt y ↔ x ≤ y := by
  rw [Int32.le_iff_toInt_le, vl_r32_toInt hx, vl_r32_toInt hy]
theorem vl_eq64 {x y : Int} (hx : vl_r64 x) (hy : vl_r64 y) : Int64.ofInt x = Int64.ofInt y ↔ x = y := by
  rw [← Int64.toInt_inj, vl_r64_toInt hx, vl_r64_toInt hy]
theorem vl_lt64 {x y : Int} (hx : vl_r64 x) (hy : vl_r64 y) : Int64.ofInt x < Int64.ofInt y ↔ x < y := by
  rw [Int64.lt_iff_toInt_lt, vl_r64_toInt hx, vl_r64_toInt hy]
theorem vl_z32 : (0 : Int32) = Int32.ofInt 0 := rfl
theorem vl_r0 : vl_r32 0 := by decide
theorem vl_r64_of {x : Int} (h : vl_r32 x) : vl_r64 x := ⟨by have := h.1; omega, by have := h.2; omega⟩
theorem vl_r32_in {i : Int} {n : Nat} (h : 0 ≤ i ∧ i < (n : Int)) (hn : n ≤ 2147483648) : vl_r32 i := ⟨by omega, by omega⟩
theorem vl_inn {i : Int} {n : Nat} (hr : vl_r32 i) (h : 0 ≤ i ∧ i < (n : Int)) : vp_in (Int32.ofInt i) n ∧ (((Int32.ofInt i).toNatClampNeg : Nat) : Int) = i := by
  have e : (Int32.ofInt i).toNatClampNeg = i.toNat := by
    rw [← Int32.toNat_toInt, vl_r32_toInt hr]
  refine ⟨?_, by rw [e]; omega⟩
  rintro (q | q)
  · rw [vl_z32, vl_lt32 hr vl_r0] at q; omega
  · rw [e] at q; omega

theorem vl_go {pc' : Nat} {st' : List Value}
  (h : ∀ (p : Program) (l : Launch) (e : Env) (R : Room) (s : State) (m : MethodId) (args : Array Value) (below : List Frame) (meth : Method) (c : Code) (H : Heap) (locs : List Loc) (cells slots : Nat) (Q : State → Prop) (ad : Nat → Nat) (ls : Array Slot), vl_Cx K d p R s m args meth c → lv_has ls K.2.2.1 (lv.map (fun q => (q.1, vl_rz ad q.2))) → W p l e R s m args below meth c H locs cells slots Q (F0 m pc' ls (st'.map (vl_rz ad))) → W p l e R s m args below meth c H locs cells slots Q (F0 m pc ls (st.map (vl_rz ad))))
  (k : vl_V nc S sc K d Post pc' lv st' μ ρ) : vl_V nc S sc K d Post pc lv st μ ρ :=
  fun p l e R s m args below meth c H locs cells slots Q D cA ad A ls hC hcs hR hl hret => h p l e R s m args below meth c H locs cells slots Q ad ls hC hl (k p l e R s m args below meth c H locs cells slots Q D cA ad A ls hC hcs hR hl hret)
theorem vl_iconst {n : Int} (hd : decode K.2.1 pc = .ok (.iconst n, 1)) (k : vl_V nc S sc K d Post (pc + 1) lv (vl_iv n :: st) μ ρ) : vl_V nc S sc K d Post pc lv (st) μ ρ :=
  vl_go (fun p l e R s m args below meth c H locs cells slots Q ad ls hC hl w => lv_iconst hC.1 hC.2.1 hd rfl w) k
theorem vl_bipush {n : Int} (hv : (Int8.ofInt n).toInt32 = Int32.ofInt n) (hd : decode K.2.1 pc = .ok (.bipush n, 2)) (k : vl_V nc S sc K d Post (pc + 2) lv (vl_iv n :: st) μ ρ) : vl_V nc S sc K d Post pc lv (st) μ ρ :=
  vl_go (fun p l e R s m args below meth c H locs cells slots Q ad ls hC hl w => lv_bipush hC.1 hC.2.1 hd hv w) k
theorem vl_sipush {n : Int} (hv : (Int16.ofInt n).toInt32 = Int32.ofInt n) (hd : decode K.2.1 pc = .ok (.sipush n, 3)) (k : vl_V nc S sc K d Post (pc + 3) lv (vl_iv n :: st) μ ρ) : vl_V nc S sc K d Post pc lv (st) μ ρ :=
  vl_go (fun p l e R s m args below meth c H locs cells slots Q ad ls hC hl w => lv_sipush hC.1 hC.2.1 hd hv w) k
theorem vl_lconst {n : Fin 2} {x : Int} (hv : Int64.ofNat (n : Nat) = Int64.ofInt x) (hd : decode K.2.1 pc = .ok (.lconst n, 1)) (k : vl_V nc S sc K d Post (pc + 1) lv (vl_jv x :: st) μ ρ) : vl_V nc S sc K d Post pc lv (st) μ ρ :=
  vl_go (fun p l e R s m args below meth c H locs cells slots Q ad ls hC hl w => lv_lconst hC.1 hC.2.1 hd hv w) k
theorem vl_iload_n (q : Nat) {k0 : Fin 4} {x : Int} (hk : lv[q]? = some ((k0 : Nat), vl_iv x)) (hd : decode K.2.1 pc = .ok (.iload_n k0, 1)) (k : vl_V nc S sc K d Post (pc + 1) lv (vl_iv x :: st) μ ρ) : vl_V nc S sc K d Post pc lv (st) μ ρ :=
  vl_go (fun p l e R s m args below meth c H locs cells slots Q ad ls hC hl w => lv_iload_n hC.1 hC.2.1 hd rfl (lv_at hl q (by rw [List.getElem?_map, hk]; rfl)) w) k
theorem vl_iload (q : Nat) {i : Nat} {x : Int} (hk : lv[q]? = some (i, vl_iv x)) (hd : decode K.2.1 pc = .ok (.iload i, 2)) (k : vl_V nc S sc K d Post (pc + 2) lv (vl_iv x :: st) μ ρ) : vl_V nc S sc K d Post pc lv (st) μ ρ :=
  vl_go (fun p l e R s m args below meth c H locs cells slots Q ad ls hC hl w => lv_iload hC.1 hC.2.1 hd (lv_at hl q (by rw [List.getElem?_map, hk]; rfl)) w) k
theorem vl_lload_n (q : Nat) {k0 : Fin 4} {x : Int} (hk : lv[q]? = some ((k0 : Nat), vl_jv x)) (hd : decode K.2.1 pc = .ok (.lload_n k0, 1)) (k : vl_V nc S sc K d Post (pc + 1) lv (vl_jv x :: st) μ ρ) : vl_V nc S sc K d Post pc lv (st) μ ρ :=
  vl_go (fun p l e R s m args below meth c H locs cells slots Q ad ls hC hl w => lv_lload_n hC.1 hC.2.1 hd rfl (lv_at hl q (by rw [List.getElem?_map, hk]; rfl)) w) k
theorem vl_lload (q : Nat) {i : Nat} {x : Int} (hk : lv[q]? = some (i, vl_jv x)) (hd : decode K.2.1 pc = .ok (.lload i, 2)) (k : vl_V nc S sc K d Post (pc + 2) lv (vl_jv x :: st) μ ρ) : vl_V nc S sc K d Post pc lv (st) μ ρ :=
  vl_go (fun p l e R s m args below meth c H locs cells slots Q ad ls hC hl w => lv_lload hC.1 hC.2.1 hd (lv_at hl q (by rw [List.getElem?_map, hk]; rfl)) w) k
theorem vl_aload_n (q : Nat) {k0 : Fin 4} {h : Nat} (hk : lv[q]? = some ((k0 : Nat), .ref h)) (hd : decode K.2.1 pc = .ok (.aload_n k0, 1)) (k : vl_V nc S sc K d Post (pc + 1) lv (.ref h :: st) μ ρ) : vl_V nc S sc K d Post pc lv (st) μ ρ :=
  vl_go (fun p l e R s m args below meth c H locs cells slots Q ad ls hC hl w => lv_aload_n hC.1 hC.2.1 hd rfl (lv_at hl q (by rw [List.getElem?_map, hk]; rfl)) w) k
theorem vl_aload (q : Nat) {i : Nat} {h : Nat} (hk : lv[q]? = some (i, .ref h)) (hd : decode K.2.1 pc = .ok (.aload i, 2)) (k : vl_V nc S sc K d Post (pc + 2) lv (.ref h :: st) μ ρ) : vl_V nc S sc K d Post pc lv (st) μ ρ :=
  vl_go (fun p l e R s m args below meth c H locs cells slots Q ad ls hC hl w => lv_aload hC.1 hC.2.1 hd (lv_at hl q (by rw [List.getElem?_map, hk]; rfl)) w) k
theorem vl_iadd {x y : Int} (hd : decode K.2.1 pc = .ok (.iadd, 1)) (k : vl_V nc S sc K d Post (pc + 1) lv (vl_iv (x + y) :: st) μ ρ) : vl_V nc S sc K d Post pc lv (vl_iv y :: vl_iv x :: st) μ ρ :=
  vl_go (fun p l e R s m args below meth c H locs cells slots Q ad ls hC hl w => lv_iadd hC.1 hC.2.1 hd (by rw [← Int32.ofInt_add]; exact w)) k
theorem vl_isub {x y : Int} (hd : decode K.2.1 pc = .ok (.isub, 1)) (k : vl_V nc S sc K d Post (pc + 1) lv (vl_iv (x - y) :: st) μ ρ) : vl_V nc S sc K d Post pc lv (vl_iv y :: vl_iv x :: st) μ ρ :=
  vl_go (fun p l e R s m args below meth c H locs cells slots Q ad ls hC hl w => lv_isub hC.1 hC.2.1 hd (by rw [← Int32.ofInt_sub]; exact w)) k
theorem vl_imul {x y : Int} (hd : decode K.2.1 pc = .ok (.imul, 1)) (k : vl_V nc S sc K d Post (pc + 1) lv (vl_iv (x * y) :: st) μ ρ) : vl_V nc S sc K d Post pc lv (vl_iv y :: vl_iv x :: st) μ ρ :=
  vl_go (fun p l e R s m args below meth c H locs cells slots Q ad ls hC hl w => lv_imul hC.1 hC.2.1 hd (by rw [← Int32.ofInt_mul]; exact w)) k
theorem vl_ladd {x y : Int} (hd : decode K.2.1 pc = .ok (.ladd, 1)) (k : vl_V nc S sc K d Post (pc + 1) lv (vl_jv (x + y) :: st) μ ρ) : vl_V nc S sc K d Post pc lv (vl_jv y :: vl_jv x :: st) μ ρ :=
  vl_go (fun p l e R s m args below meth c H locs cells slots Q ad ls hC hl w => lv_ladd hC.1 hC.2.1 hd (by rw [← Int64.ofInt_add]; exact w)) k
theorem vl_lsub {x y : Int} (hd : decode K.2.1 pc = .ok (.lsub, 1)) (k : vl_V nc S sc K d Post (pc + 1) lv (vl_jv (x - y) :: st) μ ρ) : vl_V nc S sc K d Post pc lv (vl_jv y :: vl_jv x :: st) μ ρ :=
  vl_go (fun p l e R s m args below meth c H locs cells slots Q ad ls hC hl w => lv_lsub hC.1 hC.2.1 hd (by rw [← Int64.ofInt_sub]; exact w)) k
theorem vl_lmul {x y : Int} (hd : decode K.2.1 pc = .ok (.lmul, 1)) (k : vl_V nc S sc K d Post (pc + 1) lv (vl_jv (x * y) :: st) μ ρ) : vl_V nc S sc K d Post pc lv (vl_jv y :: vl_jv x :: st) μ ρ :=
  vl_go (fun p l e R s m args below meth c H locs cells slots Q ad ls hC hl w => lv_lmul hC.1 hC.2.1 hd (by rw [← Int64.ofInt_mul]; exact w)) k
theorem vl_ineg {x : Int} (hd : decode K.2.1 pc = .ok (.ineg, 1)) (k : vl_V nc S sc K d Post (pc + 1) lv (vl_iv (-x) :: st) μ ρ) : vl_V nc S sc K d Post pc lv (vl_iv x :: st) μ ρ :=
  vl_go (fun p l e R s m args below meth c H locs cells slots Q ad ls hC hl w => lv_ineg hC.1 hC.2.1 hd (by rw [← Int32.ofInt_neg]; exact w)) k
theorem vl_lneg {x : Int} (hd : decode K.2.1 pc = .ok (.lneg, 1)) (k : vl_V nc S sc K d Post (pc + 1) lv (vl_jv (-x) :: st) μ ρ) : vl_V nc S sc K d Post pc lv (vl_jv x :: st) μ ρ :=
  vl_go (fun p l e R s m args below meth c H locs cells slots Q ad ls hC hl w => lv_lneg hC.1 hC.2.1 hd (by rw [← Int64.ofInt_neg]; exact w)) k
theorem vl_div32 {x y : Int} (hx : 0 ≤ x ∧ x < 2147483648) (hy : 0 < y ∧ y < 2147483648) : Int32.ofInt x / Int32.ofInt y = Int32.ofInt (x / y) := by
  have rx : vl_r32 x := ⟨by omega, hx.2⟩
  have ry : vl_r32 y := ⟨by omega, hy.2⟩
  have h1 : 0 ≤ x / y := Int.ediv_nonneg hx.1 (Int.le_of_lt hy.1)
  have h2 : x / y ≤ x := Int.ediv_le_self y hx.1
  have rz : vl_r32 (x / y) := ⟨by omega, by omega⟩
  rw [← Int32.toInt_inj, Int32.toInt_div_of_ne_right _ _ (fun q => by
    have := congrArg Int32.toInt q
    rw [vl_r32_toInt ry] at this
    have e : (-1 : Int32).toInt = -1 := rfl
    omega), vl_r32_toInt rx, vl_r32_toInt ry, vl_r32_toInt rz, Int.tdiv_eq_ediv_of_nonneg hx.1]
theorem vl_idiv {x y : Int} (hx : 0 ≤ x ∧ x < 2147483648) (hy : 0 < y ∧ y < 2147483648) (hd : decode K.2.1 pc = .ok (.idiv, 1)) (k : vl_V nc S sc K d Post (pc + 1) lv (vl_iv (x / y) :: st) μ ρ) : vl_V nc S sc K d Post pc lv (vl_iv y :: vl_iv x :: st) μ ρ :=
  vl_go (fun p l e R s m args below meth c H locs cells slots Q ad ls hC hl w => lv_idiv hC.1 hC.2.1 hd (fun q => by rw [vl_z32, vl_eq32 ⟨by omega, hy.2⟩ vl_r0] at q; omega) (by rw [vl_div32 hx hy]; exact w)) k
theorem vl_i2l {x : Int} (hx : vl_r32 x) (hd : decode K.2.1 pc = .ok (.i2l, 1)) (k : vl_V nc S sc K d Post (pc + 1) lv (vl_jv x :: st) μ ρ) : vl_V nc S sc K d Post pc lv (vl_iv x :: st) μ ρ :=
  vl_go (fun p l e R s m args below meth c H locs cells slots Q ad ls hC hl w => lv_i2l hC.1 hC.2.1 hd (Int32.toInt64_ofInt hx.1 (Int.le_of_lt_add_one hx.2)) w) k
theorem vl_l2i {x : Int} (hd : decode K.2.1 pc = .ok (.l2i, 1)) (k : vl_V nc S sc K d Post (pc + 1) lv (vl_iv x :: st) μ ρ) : vl_V nc S sc K d Post pc lv (vl_jv x :: st) μ ρ :=
  vl_go (fun p l e R s m args below meth c H locs cells slots Q ad ls hC hl w => lv_l2i hC.1 hC.2.1 hd Int64.toInt32_ofInt w) k
theorem vl_cat (ad : Nat → Nat) (v : Value) : (vl_rz ad v).category = v.category := by cases v <;> rfl
theorem vl_dup {v : Value} (hv : v.category = 1) (hd : decode K.2.1 pc = .ok (.dup, 1)) (k : vl_V nc S sc K d Post (pc + 1) lv (v :: v :: st) μ ρ) : vl_V nc S sc K d Post pc lv (v :: st) μ ρ :=
  vl_go (fun p l e R s m args below meth c H locs cells slots Q ad ls hC hl w => lv_dup hC.1 hC.2.1 hd (by rw [vl_cat]; exact hv) w) k
theorem vl_pop {v : Value} (hv : v.category = 1) (hd : decode K.2.1 pc = .ok (.pop, 1)) (k : vl_V nc S sc K d Post (pc + 1) lv (st) μ ρ) : vl_V nc S sc K d Post pc lv (v :: st) μ ρ :=
  vl_go (fun p l e R s m args below meth c H locs cells slots Q ad ls hC hl w => lv_pop hC.1 hC.2.1 hd (by rw [vl_cat]; exact hv) w) k
theorem vl_dup_x1 {v u : Value} (hv : v.category = 1) (hu : u.category = 1) (hd : decode K.2.1 pc = .ok (.dup_x1, 1)) (k : vl_V nc S sc K d Post (pc + 1) lv (v :: u :: v :: st) μ ρ) : vl_V nc S sc K d Post pc lv (v :: u :: st) μ ρ :=
  vl_go (fun p l e R s m args below meth c H locs cells slots Q ad ls hC hl w => lv_dup_x1 hC.1 hC.2.1 hd (by rw [vl_cat]; exact hv) (by rw [vl_cat]; exact hu) w) k
theorem vl_dup2 {v u : Value} (hv : v.category = 1) (hu : u.category = 1) (hd : decode K.2.1 pc = .ok (.dup2, 1)) (k : vl_V nc S sc K d Post (pc + 1) lv (v :: u :: v :: u :: st) μ ρ) : vl_V nc S sc K d Post pc lv (v :: u :: st) μ ρ :=
  vl_go (fun p l e R s m args below meth c H locs cells slots Q ad ls hC hl w => lv_dup2_11 hC.1 hC.2.1 hd (by rw [vl_cat]; exact hv) (by rw [vl_cat]; exact hu) w) k
theorem vl_goto {off : Int} {tgt : Nat} (hd : decode K.2.1 pc = .ok (.goto off, 3)) (ht : (pc : Int) + off = (tgt : Int)) (k : vl_V nc S sc K d Post tgt lv st μ ρ) : vl_V nc S sc K d Post pc lv st μ ρ :=
  vl_go (fun p l e R s m args below meth c H locs cells slots Q ad ls hC hl w => lv_goto hC.1 hC.2.1 hd ht w) k
theorem vl_wk (ks : List Nat) {lv' : List (Nat × Value)} (h : lv_pick lv ks = lv') (k : vl_V nc S sc K d Post pc lv' st μ ρ) : vl_V nc S sc K d Post pc lv st μ ρ :=
  fun p l e R s m args below meth c H locs cells slots Q D cA ad A ls hC hcs hR hl hret => k p l e R s m args below meth c H locs cells slots Q D cA ad A ls hC hcs hR (by
    refine ⟨hl.1, hl.2.1, fun q hq => ?_⟩
    obtain ⟨q0, h0, rfl⟩ := List.mem_map.mp hq
    rw [← h] at h0
    obtain ⟨i, -, hi⟩ := List.mem_filterMap.mp h0
    exact hl.2.2 _ (List.mem_map.mpr ⟨q0, List.mem_of_getElem? hi, rfl⟩)) hret
theorem vl_mapf (ad : Nat → Nat) (lv : List (Nat × Value)) (f : Nat × Value → Bool) (hf : ∀ q, f (q.1, vl_rz ad q.2) = f q) : (lv.map (fun q => (q.1, vl_rz ad q.2))).filter f = (lv.filter f).map (fun q => (q.1, vl_rz ad q.2)) := by
  induction lv with
  | nil => rfl
  | cons a t ih =>
    simp only [List.map_cons, List.filter_cons, hf, ih]
    split <;> rfl
theorem vl_istore_n {α : Type} {P : α → Prop} {E : Int → Option α} {i : Nat} {x : Int} {k0 : Fin 4} (hi : (k0 : Nat) = i) (lv' : Int → List (Nat × Value)) (hd : decode K.2.1 pc = .ok (.istore_n k0, 1)) (hn : i < K.2.2.1) (hlv : ∀ x, (i, vl_iv x) :: lv.filter (fun q => !(q.1 == i) && !(q.1 + 1 == i && q.2.category == 2)) = lv' x) (hE : vl_ok P (vl_lt x E)) (k : ∀ x, vl_ok P (E x) → vl_V nc S sc K d Post (pc + 1) (lv' x) st μ ρ) : vl_V nc S sc K d Post pc lv (vl_iv x :: st) μ ρ :=
  fun p l e R s m args below meth c H locs cells slots Q D cA ad A ls hC hcs hR hl hret => lv_istore_n hC.1 hC.2.1 hd hi hl hn rfl (fun ls' hl' => k x hE p l e R s m args below meth c H locs cells slots Q D cA ad A ls' hC hcs hR (by
    rw [vl_mapf ad lv _ (fun q => by simp only [vl_cat])] at hl'
    rw [← hlv x]
    exact hl') hret)
theorem vl_istore_n0 {i : Nat} {x : Int} {k0 : Fin 4} (hi : (k0 : Nat) = i) {lv' : List (Nat × Value)} (hd : decode K.2.1 pc = .ok (.istore_n k0, 1)) (hn : i < K.2.2.1) (hlv : (i, vl_iv x) :: lv.filter (fun q => !(q.1 == i) && !(q.1 + 1 == i && q.2.category == 2)) = lv') (k : vl_V nc S sc K d Post (pc + 1) lv' st μ ρ) : vl_V nc S sc K d Post pc lv (vl_iv x :: st) μ ρ :=
  fun p l e R s m args below meth c H locs cells slots Q D cA ad A ls hC hcs hR hl hret => lv_istore_n hC.1 hC.2.1 hd hi hl hn rfl (fun ls' hl' => k p l e R s m args below meth c H locs cells slots Q D cA ad A ls' hC hcs hR (by
    rw [vl_mapf ad lv _ (fun q => by simp only [vl_cat])] at hl'
    rw [← hlv]
    exact hl') hret)
theorem vl_istore {α : Type} {P : α → Prop} {E : Int → Option α} {i : Nat} {x : Int}  (lv' : Int → List (Nat × Value)) (hd : decode K.2.1 pc = .ok (.istore i, 2)) (hn : i < K.2.2.1) (hlv : ∀ x, (i, vl_iv x) :: lv.filter (fun q => !(q.1 == i) && !(q.1 + 1 == i && q.2.category == 2)) = lv' x) (hE : vl_ok P (vl_lt x E)) (k : ∀ x, vl_ok P (E x) → vl_V nc S sc K d Post (pc + 2) (lv' x) st μ ρ) : vl_V nc S sc K d Post pc lv (vl_iv x :: st) μ ρ :=
  fun p l e R s m args below meth c H locs cells slots Q D cA ad A ls hC hcs hR hl hret => lv_istore hC.1 hC.2.1 hd hl hn rfl (fun ls' hl' => k x hE p l e R s m args below meth c H locs cells slots Q D cA ad A ls' hC hcs hR (by
    rw [vl_mapf ad lv _ (fun q => by simp only [vl_cat])] at hl'
    rw [← hlv x]
    exact hl') hret)
theorem vl_istore0 {i : Nat} {x : Int}  {lv' : List (Nat × Value)} (hd : decode K.2.1 pc = .ok (.istore i, 2)) (hn : i < K.2.2.1) (hlv : (i, vl_iv x) :: lv.filter (fun q => !(q.1 == i) && !(q.1 + 1 == i && q.2.category == 2)) = lv') (k : vl_V nc S sc K d Post (pc + 2) lv' st μ ρ) : vl_V nc S sc K d Post pc lv (vl_iv x :: st) μ ρ :=
  fun p l e R s m args below meth c H locs cells slots Q D cA ad A ls hC hcs hR hl hret => lv_istore hC.1 hC.2.1 hd hl hn rfl (fun ls' hl' => k p l e R s m args below meth c H locs cells slots Q D cA ad A ls' hC hcs hR (by
    rw [vl_mapf ad lv _ (fun q => by simp only [vl_cat])] at hl'
    rw [← hlv]
    exact hl') hret)
theorem vl_lstore_n {α : Type} {P : α → Prop} {E : Int → Option α} {i : Nat} {x : Int} {k0 : Fin 4} (hi : (k0 : Nat) = i) (lv' : Int → List (Nat × Value)) (hd : decode K.2.1 pc = .ok (.lstore_n k0, 1)) (hn : i + 1 < K.2.2.1) (hlv : ∀ x, (i, vl_jv x) :: lv.filter (fun q => !(q.1 == i) && (!(q.1 == i + 1) && !(q.1 + 1 == i && q.2.category == 2))) = lv' x) (hE : vl_ok P (vl_lt x E)) (k : ∀ x, vl_ok P (E x) → vl_V nc S sc K d Post (pc + 1) (lv' x) st μ ρ) : vl_V nc S sc K d Post pc lv (vl_jv x :: st) μ ρ :=
  fun p l e R s m args below meth c H locs cells slots Q D cA ad A ls hC hcs hR hl hret => lv_lstore_n hC.1 hC.2.1 hd hi hl hn rfl (fun ls' hl' => k x hE p l e R s m args below meth c H locs cells slots Q D cA ad A ls' hC hcs hR (by
    rw [vl_mapf ad lv _ (fun q => by simp only [vl_cat])] at hl'
    rw [← hlv x]
    exact hl') hret)
theorem vl_lstore_n0 {i : Nat} {x : Int} {k0 : Fin 4} (hi : (k0 : Nat) = i) {lv' : List (Nat × Value)} (hd : decode K.2.1 pc = .ok (.lstore_n k0, 1)) (hn : i + 1 < K.2.2.1) (hlv : (i, vl_jv x) :: lv.filter (fun q => !(q.1 == i) && (!(q.1 == i + 1) && !(q.1 + 1 == i && q.2.category == 2))) = lv') (k : vl_V nc S sc K d Post (pc + 1) lv' st μ ρ) : vl_V nc S sc K d Post pc lv (vl_jv x :: st) μ ρ :=
  fun p l e R s m args below meth c H locs cells slots Q D cA ad A ls hC hcs hR hl hret => lv_lstore_n hC.1 hC.2.1 hd hi hl hn rfl (fun ls' hl' => k p l e R s m args below meth c H locs cells slots Q D cA ad A ls' hC hcs hR (by
    rw [vl_mapf ad lv _ (fun q => by simp only [vl_cat])] at hl'
    rw [← hlv]
    exact hl') hret)
theorem vl_lstore {α : Type} {P : α → Prop} {E : Int → Option α} {i : Nat} {x : Int}  (lv' : Int → List (Nat × Value)) (hd : decode K.2.1 pc = .ok (.lstore i, 2)) (hn : i + 1 < K.2.2.1) (hlv : ∀ x, (i, vl_jv x) :: lv.filter (fun q => !(q.1 == i) && (!(q.1 == i + 1) && !(q.1 + 1 == i && q.2.category == 2))) = lv' x) (hE : vl_ok P (vl_lt x E)) (k : ∀ x, vl_ok P (E x) → vl_V nc S sc K d Post (pc + 2) (lv' x) st μ ρ) : vl_V nc S sc K d Post pc lv (vl_jv x :: st) μ ρ :=
  fun p l e R s m args below meth c H locs cells slots Q D cA ad A ls hC hcs hR hl hret => lv_lstore hC.1 hC.2.1 hd hl hn rfl (fun ls' hl' => k x hE p l e R s m args below meth c H locs cells slots Q D cA ad A ls' hC hcs hR (by
    rw [vl_mapf ad lv _ (fun q => by simp only [vl_cat])] at hl'
    rw [← hlv x]
    exact hl') hret)
theorem vl_lstore0 {i : Nat} {x : Int}  {lv' : List (Nat × Value)} (hd : decode K.2.1 pc = .ok (.lstore i, 2)) (hn : i + 1 < K.2.2.1) (hlv : (i, vl_jv x) :: lv.filter (fun q => !(q.1 == i) && (!(q.1 == i + 1) && !(q.1 + 1 == i && q.2.category == 2))) = lv') (k : vl_V nc S sc K d Post (pc + 2) lv' st μ ρ) : vl_V nc S sc K d Post pc lv (vl_jv x :: st) μ ρ :=
  fun p l e R s m args below meth c H locs cells slots Q D cA ad A ls hC hcs hR hl hret => lv_lstore hC.1 hC.2.1 hd hl hn rfl (fun ls' hl' => k p l e R s m args below meth c H locs cells slots Q D cA ad A ls' hC hcs hR (by
    rw [vl_mapf ad lv _ (fun q => by simp only [vl_cat])] at hl'
    rw [← hlv]
    exact hl') hret)
theorem vl_astore_n {i : Nat} {x : Nat} {k0 : Fin 4} (hi : (k0 : Nat) = i) {lv' : List (Nat × Value)} (hd : decode K.2.1 pc = .ok (.astore_n k0, 1)) (hn : i < K.2.2.1) (hlv : (i, Value.ref x) :: lv.filter (fun q => !(q.1 == i) && !(q.1 + 1 == i && q.2.category == 2)) = lv') (k : vl_V nc S sc K d Post (pc + 1) lv' st μ ρ) : vl_V nc S sc K d Post pc lv (.ref x :: st) μ ρ :=
  fun p l e R s m args below meth c H locs cells slots Q D cA ad A ls hC hcs hR hl hret => lv_astore_n hC.1 hC.2.1 hd hi hl hn rfl (fun ls' hl' => k p l e R s m args below meth c H locs cells slots Q D cA ad A ls' hC hcs hR (by
    rw [vl_mapf ad lv _ (fun q => by simp only [vl_cat])] at hl'
    rw [← hlv]
    exact hl') hret)
theorem vl_astore {i : Nat} {x : Nat}  {lv' : List (Nat × Value)} (hd : decode K.2.1 pc = .ok (.astore i, 2)) (hn : i < K.2.2.1) (hlv : (i, Value.ref x) :: lv.filter (fun q => !(q.1 == i) && !(q.1 + 1 == i && q.2.category == 2)) = lv') (k : vl_V nc S sc K d Post (pc + 2) lv' st μ ρ) : vl_V nc S sc K d Post pc lv (.ref x :: st) μ ρ :=
  fun p l e R s m args below meth c H locs cells slots Q D cA ad A ls hC hcs hR hl hret => lv_astore hC.1 hC.2.1 hd hl hn rfl (fun ls' hl' => k p l e R s m args below meth c H locs cells slots Q D cA ad A ls' hC hcs hR (by
    rw [vl_mapf ad lv _ (fun q => by simp only [vl_cat])] at hl'
    rw [← hlv]
    exact hl') hret)
theorem vl_iinc {α : Type} {P : α → Prop} {E : Int → Option α} (q : Nat) {i : Nat} {n : Int} {x : Int} (lv' : Int → List (Nat × Value)) (hd : decode K.2.1 pc = .ok (.iinc i n, 3)) (hk : lv[q]? = some (i, vl_iv x)) (hn : i < K.2.2.1) (hlv : ∀ x, (i, vl_iv x) :: lv.filter (fun q => !(q.1 == i) && !(q.1 + 1 == i && q.2.category == 2)) = lv' x) (hE : vl_ok P (vl_lt (x + n) E)) (k : ∀ x, vl_ok P (E x) → vl_V nc S sc K d Post (pc + 3) (lv' x) st μ ρ) : vl_V nc S sc K d Post pc lv st μ ρ :=
  fun p l e R s m args below meth c H locs cells slots Q D cA ad A ls hC hcs hR hl hret => lv_iinc hC.1 hC.2.1 hd hl (by rw [List.getElem?_map, hk]; rfl) (by rw [← Int32.ofInt_add]) hn rfl (fun ls' hl' => k (x + n) hE p l e R s m args below meth c H locs cells slots Q D cA ad A ls' hC hcs hR (by
    rw [vl_mapf ad lv _ (fun q => by simp only [vl_cat])] at hl'
    rw [← hlv (x + n)]
    exact hl') hret)
theorem vl_icmp_eq {α : Type} {P : α → Prop} {A B : Option α} {x y : Int} {off : Int} {tgt : Nat} (hd : decode K.2.1 pc = .ok (.if_icmp .eq off, 3)) (ht : (pc : Int) + off = (tgt : Int)) (hx : vl_r32 x) (hy : vl_r32 y) (hE : vl_ok P (if x = y then A else B)) (kt : x = y → vl_ok P A → vl_V nc S sc K d Post tgt lv st μ ρ) (kf : ¬ (x = y) → vl_ok P B → vl_V nc S sc K d Post (pc + 3) lv st μ ρ) : vl_V nc S sc K d Post pc lv (vl_iv y :: vl_iv x :: st) μ ρ :=
  fun p l e R s m args below meth c H locs cells slots Q D cA ad A_1 ls hC hcs hR hl hret => lv_icmp_eq hC.1 hC.2.1 hd ht
    (fun q => kt ((vl_eq32 hx hy).mp q) (by rw [if_pos ((vl_eq32 hx hy).mp q)] at hE; exact hE) p l e R s m args below meth c H locs cells slots Q D cA ad A_1 ls hC hcs hR hl hret)
    (fun q => kf (fun z => q ((vl_eq32 hx hy).mpr z)) (by rw [if_neg (fun z => q ((vl_eq32 hx hy).mpr z))] at hE; exact hE) p l e R s m args below meth c H locs cells slots Q D cA ad A_1 ls hC hcs hR hl hret)
theorem vl_icmp_ne {α : Type} {P : α → Prop} {A B : Option α} {x y : Int} {off : Int} {tgt : Nat} (hd : decode K.2.1 pc = .ok (.if_icmp .ne off, 3)) (ht : (pc : Int) + off = (tgt : Int)) (hx : vl_r32 x) (hy : vl_r32 y) (hE : vl_ok P (if x = y then A else B)) (kt : ¬ (x = y) → vl_ok P B → vl_V nc S sc K d Post tgt lv st μ ρ) (kf : x = y → vl_ok P A → vl_V nc S sc K d Post (pc + 3) lv st μ ρ) : vl_V nc S sc K d Post pc lv (vl_iv y :: vl_iv x :: st) μ ρ :=
  fun p l e R s m args below meth c H locs cells slots Q D cA ad A_1 ls hC hcs hR hl hret => lv_icmp_ne hC.1 hC.2.1 hd ht
    (fun q => kt (fun z => q ((vl_eq32 hx hy).mpr z)) (by rw [if_neg (fun z => q ((vl_eq32 hx hy).mpr z))] at hE; exact hE) p l e R s m args below meth c H locs cells slots Q D cA ad A_1 ls hC hcs hR hl hret)
    (fun q => kf ((vl_eq32 hx hy).mp q) (by rw [if_pos ((vl_eq32 hx hy).mp q)] at hE; exact hE) p l e R s m args below meth c H locs cells slots Q D cA ad A_1 ls hC hcs hR hl hret)
theorem vl_icmp_lt {α : Type} {P : α → Prop} {A B : Option α} {x y : Int} {off : Int} {tgt : Nat} (hd : decode K.2.1 pc = .ok (.if_icmp .lt off, 3)) (ht : (pc : Int) + off = (tgt : Int)) (hx : vl_r32 x) (hy : vl_r32 y) (hE : vl_ok P (if x < y then A else B)) (kt : x < y → vl_ok P A → vl_V nc S sc K d Post tgt lv st μ ρ) (kf : ¬ (x < y) → vl_ok P B → vl_V nc S sc K d Post (pc + 3) lv st μ ρ) : vl_V nc S sc K d Post pc lv (vl_iv y :: vl_iv x :: st) μ ρ :=
  fun p l e R s m args below meth c H locs cells slots Q D cA ad A_1 ls hC hcs hR hl hret => lv_icmp_lt hC.1 hC.2.1 hd ht
    (fun q => kt ((vl_lt32 hx hy).mp q) (by rw [if_pos ((vl_lt32 hx hy).mp q)] at hE; exact hE) p l e R s m args below meth c H locs cells slots Q D cA ad A_1 ls hC hcs hR hl hret)
    (fun q => kf (fun z => q ((vl_lt32 hx hy).mpr z)) (by rw [if_neg (fun z => q ((vl_lt32 hx hy).mpr z))] at hE; exact hE) p l e R s m args below meth c H locs cells slots Q D cA ad A_1 ls hC hcs hR hl hret)
theorem vl_icmp_ge {α : Type} {P : α → Prop} {A B : Option α} {x y : Int} {off : Int} {tgt : Nat} (hd : decode K.2.1 pc = .ok (.if_icmp .ge off, 3)) (ht : (pc : Int) + off = (tgt : Int)) (hx : vl_r32 x) (hy : vl_r32 y) (hE : vl_ok P (if x < y then A else B)) (kt : ¬ (x < y) → vl_ok P B → vl_V nc S sc K d Post tgt lv st μ ρ) (kf : x < y → vl_ok P A → vl_V nc S sc K d Post (pc + 3) lv st μ ρ) : vl_V nc S sc K d Post pc lv (vl_iv y :: vl_iv x :: st) μ ρ :=
  fun p l e R s m args below meth c H locs cells slots Q D cA ad A_1 ls hC hcs hR hl hret => lv_icmp_ge hC.1 hC.2.1 hd ht
    (fun q => kt (Int.not_lt.mpr ((vl_le32 hy hx).mp q)) (by rw [if_neg (Int.not_lt.mpr ((vl_le32 hy hx).mp q))] at hE; exact hE) p l e R s m args below meth c H locs cells slots Q D cA ad A_1 ls hC hcs hR hl hret)
    (fun q => kf (Int.not_le.mp (fun z => q ((vl_le32 hy hx).mpr z))) (by rw [if_pos (Int.not_le.mp (fun z => q ((vl_le32 hy hx).mpr z)))] at hE; exact hE) p l e R s m args below meth c H locs cells slots Q D cA ad A_1 ls hC hcs hR hl hret)
theorem vl_icmp_gt {α : Type} {P : α → Prop} {A B : Option α} {x y : Int} {off : Int} {tgt : Nat} (hd : decode K.2.1 pc = .ok (.if_icmp .gt off, 3)) (ht : (pc : Int) + off = (tgt : Int)) (hx : vl_r32 x) (hy : vl_r32 y) (hE : vl_ok P (if y < x then A else B)) (kt : y < x → vl_ok P A → vl_V nc S sc K d Post tgt lv st μ ρ) (kf : ¬ (y < x) → vl_ok P B → vl_V nc S sc K d Post (pc + 3) lv st μ ρ) : vl_V nc S sc K d Post pc lv (vl_iv y :: vl_iv x :: st) μ ρ :=
  fun p l e R s m args below meth c H locs cells slots Q D cA ad A_1 ls hC hcs hR hl hret => lv_icmp_gt hC.1 hC.2.1 hd ht
    (fun q => kt ((vl_lt32 hy hx).mp q) (by rw [if_pos ((vl_lt32 hy hx).mp q)] at hE; exact hE) p l e R s m args below meth c H locs cells slots Q D cA ad A_1 ls hC hcs hR hl hret)
    (fun q => kf (fun z => q ((vl_lt32 hy hx).mpr z)) (by rw [if_neg (fun z => q ((vl_lt32 hy hx).mpr z))] at hE; exact hE) p l e R s m args below meth c H locs cells slots Q D cA ad A_1 ls hC hcs hR hl hret)
theorem vl_icmp_le {α : Type} {P : α → Prop} {A B : Option α} {x y : Int} {off : Int} {tgt : Nat} (hd : decode K.2.1 pc = .ok (.if_icmp .le off, 3)) (ht : (pc : Int) + off = (tgt : Int)) (hx : vl_r32 x) (hy : vl_r32 y) (hE : vl_ok P (if y < x then A else B)) (kt : ¬ (y < x) → vl_ok P B → vl_V nc S sc K d Post tgt lv st μ ρ) (kf : y < x → vl_ok P A → vl_V nc S sc K d Post (pc + 3) lv st μ ρ) : vl_V nc S sc K d Post pc lv (vl_iv y :: vl_iv x :: st) μ ρ :=
  fun p l e R s m args below meth c H locs cells slots Q D cA ad A_1 ls hC hcs hR hl hret => lv_icmp_le hC.1 hC.2.1 hd ht
    (fun q => kt (Int.not_lt.mpr ((vl_le32 hx hy).mp q)) (by rw [if_neg (Int.not_lt.mpr ((vl_le32 hx hy).mp q))] at hE; exact hE) p l e R s m args below meth c H locs cells slots Q D cA ad A_1 ls hC hcs hR hl hret)
    (fun q => kf (Int.not_le.mp (fun z => q ((vl_le32 hx hy).mpr z))) (by rw [if_pos (Int.not_le.mp (fun z => q ((vl_le32 hx hy).mpr z)))] at hE; exact hE) p l e R s m args below meth c H locs cells slots Q D cA ad A_1 ls hC hcs hR hl hret)
theorem vl_if_eq {α : Type} {P : α → Prop} {A B : Option α} {x y : Int} {off : Int} {tgt : Nat} (hd : decode K.2.1 pc = .ok (.ifCond .eq off, 3)) (ht : (pc : Int) + off = (tgt : Int)) (hx : vl_r32 x) (hE : vl_ok P (if x = 0 then A else B)) (kt : x = 0 → vl_ok P A → vl_V nc S sc K d Post tgt lv st μ ρ) (kf : ¬ (x = 0) → vl_ok P B → vl_V nc S sc K d Post (pc + 3) lv st μ ρ) : vl_V nc S sc K d Post pc lv (vl_iv x :: st) μ ρ :=
  fun p l e R s m args below meth c H locs cells slots Q D cA ad A_1 ls hC hcs hR hl hret => lv_if_eq hC.1 hC.2.1 hd ht
    (fun q => kt ((vl_eq32 hx vl_r0).mp q) (by rw [if_pos ((vl_eq32 hx vl_r0).mp q)] at hE; exact hE) p l e R s m args below meth c H locs cells slots Q D cA ad A_1 ls hC hcs hR hl hret)
    (fun q => kf (fun z => q ((vl_eq32 hx vl_r0).mpr z)) (by rw [if_neg (fun z => q ((vl_eq32 hx vl_r0).mpr z))] at hE; exact hE) p l e R s m args below meth c H locs cells slots Q D cA ad A_1 ls hC hcs hR hl hret)
theorem vl_if_ne {α : Type} {P : α → Prop} {A B : Option α} {x y : Int} {off : Int} {tgt : Nat} (hd : decode K.2.1 pc = .ok (.ifCond .ne off, 3)) (ht : (pc : Int) + off = (tgt : Int)) (hx : vl_r32 x) (hE : vl_ok P (if x = 0 then A else B)) (kt : ¬ (x = 0) → vl_ok P B → vl_V nc S sc K d Post tgt lv st μ ρ) (kf : x = 0 → vl_ok P A → vl_V nc S sc K d Post (pc + 3) lv st μ ρ) : vl_V nc S sc K d Post pc lv (vl_iv x :: st) μ ρ :=
  fun p l e R s m args below meth c H locs cells slots Q D cA ad A_1 ls hC hcs hR hl hret => lv_if_ne hC.1 hC.2.1 hd ht
    (fun q => kt (fun z => q ((vl_eq32 hx vl_r0).mpr z)) (by rw [if_neg (fun z => q ((vl_eq32 hx vl_r0).mpr z))] at hE; exact hE) p l e R s m args below meth c H locs cells slots Q D cA ad A_1 ls hC hcs hR hl hret)
    (fun q => kf ((vl_eq32 hx vl_r0).mp q) (by rw [if_pos ((vl_eq32 hx vl_r0).mp q)] at hE; exact hE) p l e R s m args below meth c H locs cells slots Q D cA ad A_1 ls hC hcs hR hl hret)
theorem vl_if_lt {α : Type} {P : α → Prop} {A B : Option α} {x y : Int} {off : Int} {tgt : Nat} (hd : decode K.2.1 pc = .ok (.ifCond .lt off, 3)) (ht : (pc : Int) + off = (tgt : Int)) (hx : vl_r32 x) (hE : vl_ok P (if x < 0 then A else B)) (kt : x < 0 → vl_ok P A → vl_V nc S sc K d Post tgt lv st μ ρ) (kf : ¬ (x < 0) → vl_ok P B → vl_V nc S sc K d Post (pc + 3) lv st μ ρ) : vl_V nc S sc K d Post pc lv (vl_iv x :: st) μ ρ :=
  fun p l e R s m args below meth c H locs cells slots Q D cA ad A_1 ls hC hcs hR hl hret => lv_if_lt hC.1 hC.2.1 hd ht
    (fun q => kt ((vl_lt32 hx vl_r0).mp q) (by rw [if_pos ((vl_lt32 hx vl_r0).mp q)] at hE; exact hE) p l e R s m args below meth c H locs cells slots Q D cA ad A_1 ls hC hcs hR hl hret)
    (fun q => kf (fun z => q ((vl_lt32 hx vl_r0).mpr z)) (by rw [if_neg (fun z => q ((vl_lt32 hx vl_r0).mpr z))] at hE; exact hE) p l e R s m args below meth c H locs cells slots Q D cA ad A_1 ls hC hcs hR hl hret)
theorem vl_if_ge {α : Type} {P : α → Prop} {A B : Option α} {x y : Int} {off : Int} {tgt : Nat} (hd : decode K.2.1 pc = .ok (.ifCond .ge off, 3)) (ht : (pc : Int) + off = (tgt : Int)) (hx : vl_r32 x) (hE : vl_ok P (if x < 0 then A else B)) (kt : ¬ (x < 0) → vl_ok P B → vl_V nc S sc K d Post tgt lv st μ ρ) (kf : x < 0 → vl_ok P A → vl_V nc S sc K d Post (pc + 3) lv st μ ρ) : vl_V nc S sc K d Post pc lv (vl_iv x :: st) μ ρ :=
  fun p l e R s m args below meth c H locs cells slots Q D cA ad A_1 ls hC hcs hR hl hret => lv_if_ge hC.1 hC.2.1 hd ht
    (fun q => kt (Int.not_lt.mpr ((vl_le32 vl_r0 hx).mp q)) (by rw [if_neg (Int.not_lt.mpr ((vl_le32 vl_r0 hx).mp q))] at hE; exact hE) p l e R s m args below meth c H locs cells slots Q D cA ad A_1 ls hC hcs hR hl hret)
    (fun q => kf (Int.not_le.mp (fun z => q ((vl_le32 vl_r0 hx).mpr z))) (by rw [if_pos (Int.not_le.mp (fun z => q ((vl_le32 vl_r0 hx).mpr z)))] at hE; exact hE) p l e R s m args below meth c H locs cells slots Q D cA ad A_1 ls hC hcs hR hl hret)
theorem vl_if_gt {α : Type} {P : α → Prop} {A B : Option α} {x y : Int} {off : Int} {tgt : Nat} (hd : decode K.2.1 pc = .ok (.ifCond .gt off, 3)) (ht : (pc : Int) + off = (tgt : Int)) (hx : vl_r32 x) (hE : vl_ok P (if 0 < x then A else B)) (kt : 0 < x → vl_ok P A → vl_V nc S sc K d Post tgt lv st μ ρ) (kf : ¬ (0 < x) → vl_ok P B → vl_V nc S sc K d Post (pc + 3) lv st μ ρ) : vl_V nc S sc K d Post pc lv (vl_iv x :: st) μ ρ :=
  fun p l e R s m args below meth c H locs cells slots Q D cA ad A_1 ls hC hcs hR hl hret => lv_if_gt hC.1 hC.2.1 hd ht
    (fun q => kt ((vl_lt32 vl_r0 hx).mp q) (by rw [if_pos ((vl_lt32 vl_r0 hx).mp q)] at hE; exact hE) p l e R s m args below meth c H locs cells slots Q D cA ad A_1 ls hC hcs hR hl hret)
    (fun q => kf (fun z => q ((vl_lt32 vl_r0 hx).mpr z)) (by rw [if_neg (fun z => q ((vl_lt32 vl_r0 hx).mpr z))] at hE; exact hE) p l e R s m args below meth c H locs cells slots Q D cA ad A_1 ls hC hcs hR hl hret)
theorem vl_if_le {α : Type} {P : α → Prop} {A B : Option α} {x y : Int} {off : Int} {tgt : Nat} (hd : decode K.2.1 pc = .ok (.ifCond .le off, 3)) (ht : (pc : Int) + off = (tgt : Int)) (hx : vl_r32 x) (hE : vl_ok P (if 0 < x then A else B)) (kt : ¬ (0 < x) → vl_ok P B → vl_V nc S sc K d Post tgt lv st μ ρ) (kf : 0 < x → vl_ok P A → vl_V nc S sc K d Post (pc + 3) lv st μ ρ) : vl_V nc S sc K d Post pc lv (vl_iv x :: st) μ ρ :=
  fun p l e R s m args below meth c H locs cells slots Q D cA ad A_1 ls hC hcs hR hl hret => lv_if_le hC.1 hC.2.1 hd ht
    (fun q => kt (Int.not_lt.mpr ((vl_le32 hx vl_r0).mp q)) (by rw [if_neg (Int.not_lt.mpr ((vl_le32 hx vl_r0).mp q))] at hE; exact hE) p l e R s m args below meth c H locs cells slots Q D cA ad A_1 ls hC hcs hR hl hret)
    (fun q => kf (Int.not_le.mp (fun z => q ((vl_le32 hx vl_r0).mpr z))) (by rw [if_pos (Int.not_le.mp (fun z => q ((vl_le32 hx vl_r0).mpr z)))] at hE; exact hE) p l e R s m args below meth c H locs cells slots Q D cA ad A_1 ls hC hcs hR hl hret)
end VLR
end
section
section VLM
variable {nc : Nat} {S : vl_Sh} {sc : Nat × (Nat → Int32)} {K : vl_K} {d : Nat} {Post : Int → vl_M → vl_M → Prop} {pc : Nat} {lv : List (Nat × Value)} {st : List Value} {μ ρ : vl_M}
theorem vl_ws_get {cA : ClassId} {ad : Nat → Nat} {h : Nat} (hh : h < nc) : (vl_ws nc S cA ad μ ρ)[h]? = some (ad h, vl_cell S cA ad μ ρ h) := by
  simp [vl_ws, hh]
theorem vl_ws_arr {cA : ClassId} {ad : Nat → Nat} {h n : Nat} (hh : h < nc) (hS : S h = .inl n) : (vl_ws nc S cA ad μ ρ)[h]? = some (ad h, .inl (cA, n, .inl (fun j => Int32.ofInt (vl_g μ ρ h (j : Int))))) := by
  rw [vl_ws_get hh]; simp only [vl_cell, hS]
theorem vl_ws_obj {cA : ClassId} {ad : Nat → Nat} {h ci : Nat} {cs : List Nat} (hh : h < nc) (hS : S h = .inr (ci, cs)) : (vl_ws nc S cA ad μ ρ)[h]? = some (ad h, .inr (ci, cs.mapIdx (fun k c => vl_fv ad (vl_g μ ρ h (k : Int)) c))) := by
  rw [vl_ws_get hh]; simp only [vl_cell, hS]
theorem vl_set {cA : ClassId} {ad : Nat → Nat} {μ' ρ' : vl_M} {h : Nat} {e : va_E} (hh : h < nc) (h1 : vl_cell S cA ad μ' ρ' h = e) (h2 : ∀ k, k ≠ h → vl_cell S cA ad μ' ρ' k = vl_cell S cA ad μ ρ k) : (vl_ws nc S cA ad μ ρ).set h (ad h, e) = vl_ws nc S cA ad μ' ρ' := by
  apply List.ext_getElem?
  intro k
  by_cases hk : k = h
  · subst hk
    rw [List.getElem?_set_self (by simp [vl_ws, hh]), vl_ws_get hh, h1]
  · rw [List.getElem?_set_ne (Ne.symm hk)]
    by_cases hkn : k < nc
    · rw [vl_ws_get hkn, vl_ws_get hkn, h2 k hk]
    · rw [List.getElem?_eq_none (by simp [vl_ws]; omega), List.getElem?_eq_none (by simp [vl_ws]; omega)]
theorem vl_cell_eq {cA : ClassId} {ad : Nat → Nat} {μ' ρ' : vl_M} {k : Nat} (h : ∀ j : Int, vl_g μ' ρ' k j = vl_g μ ρ k j) : vl_cell S cA ad μ' ρ' k = vl_cell S cA ad μ ρ k := by
  unfold vl_cell
  simp only [h]
theorem vl_g_c {h : Nat} (hh : h < 23) (j : Int) : vl_g μ ρ h j = μ h j := by simp [vl_g, hh]
theorem vl_g_r {h : Nat} (hh : 23 ≤ h) (j : Int) : vl_g μ ρ h j = ρ h j := by simp [vl_g, Nat.not_lt.mpr hh]
theorem vl_g_upc {h : Nat} (hh : h < 23) (i v : Int) (k : Nat) (j : Int) : vl_g (vl_up μ h i v) ρ k j = if k = h ∧ j = i then v else vl_g μ ρ k j := by
  unfold vl_g vl_up
  by_cases hk : k < 23
  · simp [hk]
  · have : ¬ k = h := by omega
    simp [hk, this]
theorem vl_g_upr {h : Nat} (hh : 23 ≤ h) (i v : Int) (k : Nat) (j : Int) : vl_g μ (vl_up ρ h i v) k j = if k = h ∧ j = i then v else vl_g μ ρ k j := by
  unfold vl_g vl_up
  by_cases hk : k < 23
  · have : ¬ k = h := by omega
    simp [hk, this]
  · simp [hk]
/-- an array's place is written -/
theorem vl_set_arr {cA : ClassId} {ad : Nat → Nat} {μ' ρ' : vl_M} {h n : Nat} {i v : Int} {a : Nat} (hh : h < nc) (hS : S h = .inl n) (ha : (a : Int) = i) (hg : ∀ (k : Nat) (j : Int), vl_g μ' ρ' k j = if k = h ∧ j = i then v else vl_g μ ρ k j) :
    (vl_ws nc S cA ad μ ρ).set h (ad h, .inl (cA, n, .inl (upd (fun j => Int32.ofInt (vl_g μ ρ h (j : Int))) a (Int32.ofInt v)))) = vl_ws nc S cA ad μ' ρ' := by
  refine vl_set hh ?_ (fun k hk => vl_cell_eq (fun j => by rw [hg]; simp [hk]))
  simp only [vl_cell, hS]
  congr 4
  funext j
  rw [hg]
  unfold upd
  by_cases hj : j = a
  · subst hj; simp [ha]
  · have : ¬ (j : Int) = i := by omega
    simp [hj, this]
/-- an object's field is written -/
theorem vl_set_obj {cA : ClassId} {ad : Nat → Nat} {μ' ρ' : vl_M} {h ci k0 : Nat} {cs : List Nat} {v : Int} {c0 : Nat} (hh : h < nc) (hS : S h = .inr (ci, cs)) (hk0 : cs[k0]? = some c0) (hg : ∀ (k : Nat) (j : Int), vl_g μ' ρ' k j = if k = h ∧ j = (k0 : Int) then v else vl_g μ ρ k j) :
    (vl_ws nc S cA ad μ ρ).set h (ad h, .inr (ci, (cs.mapIdx (fun k c => vl_fv ad (vl_g μ ρ h (k : Int)) c)).set k0 (vl_fv ad v c0))) = vl_ws nc S cA ad μ' ρ' := by
  refine vl_set hh ?_ (fun k hk => vl_cell_eq (fun j => by rw [hg]; simp [hk]))
  simp only [vl_cell, hS]
  congr 2
  apply List.ext_getElem?
  intro j
  by_cases hj : j = k0
  · subst hj
    rw [List.getElem?_set_self (by rw [List.length_mapIdx]; exact (List.getElem?_eq_some_iff.mp hk0).1), List.getElem?_mapIdx, hk0]
    simp [hg]
  · rw [List.getElem?_set_ne (Ne.symm hj), List.getElem?_mapIdx, List.getElem?_mapIdx]
    cases cs[j]? with
    | none => rfl
    | some c =>
      have : ¬ (j : Int) = (k0 : Int) := by omega
      simp [hg, this]
/-- a field is read: int, long, a cell -/
theorem vl_get {T : u_T} {N ci h k0 c0 index : Nat} {cs : List Nat} {C : String} {v : Value} (hin : ∀ w ∈ u_ws C T N, w ∈ vl_tbl) (hh : h < nc) (hS : S h = .inr (ci, cs)) (hc : vwCl[ci]? = some (C, T, N)) (hk : k0 < N) (hlink : Cond.fieldLink K.1.cls index (T k0).1 (T k0).2.1 (T k0).2.2.1 ∈ vl_tbl) (hk0 : cs[k0]? = some c0)
    (hd : decode K.2.1 pc = .ok (.getfield index, 3)) (hv : ∀ ad, vl_fv ad (vl_g μ ρ h (k0 : Int)) c0 = vl_rz ad v) (k : vl_V nc S sc K d Post (pc + 3) lv (v :: st) μ ρ) : vl_V nc S sc K d Post pc lv (.ref h :: st) μ ρ :=
  fun p l e R s m args below meth c H locs cells slots Q D cA ad A ls hC hcs hR hl hret =>
    va_get (D := D) (v := vl_rz ad v) hC.1 hC.2.1 hC.2.2.2.2.1 hin hC.2.2.2.1 hR.2.2.1 hR.1 h (vl_ws_obj hh hS) hc k0 hk (hC.2.2.2.2.1 _ hlink) (fun _ h9 => h9) (by rw [List.getElem?_mapIdx, hk0]; exact congrArg some (hv ad)) hd
      (k p l e R s m args below meth c H locs cells slots Q D cA ad A ls hC hcs hR hl hret)
theorem vl_getIc {T : u_T} {N ci h k0 index : Nat} {cs : List Nat} {C : String} (hin : ∀ w ∈ u_ws C T N, w ∈ vl_tbl) (hh : h < nc) (h3 : h < 23) (hS : S h = .inr (ci, cs)) (hc : vwCl[ci]? = some (C, T, N)) (hk : k0 < N) (hlink : Cond.fieldLink K.1.cls index (T k0).1 (T k0).2.1 (T k0).2.2.1 ∈ vl_tbl) (hk0 : cs[k0]? = some 0)
    (hd : decode K.2.1 pc = .ok (.getfield index, 3)) (k : vl_V nc S sc K d Post (pc + 3) lv (vl_iv (μ h (k0 : Int)) :: st) μ ρ) : vl_V nc S sc K d Post pc lv (.ref h :: st) μ ρ :=
  vl_get hin hh hS hc hk hlink hk0 hd (fun ad => by rw [vl_g_c h3]; rfl) k
theorem vl_getIr {T : u_T} {N ci h k0 index : Nat} {cs : List Nat} {C : String} (hin : ∀ w ∈ u_ws C T N, w ∈ vl_tbl) (hh : h < nc) (h3 : 23 ≤ h) (hS : S h = .inr (ci, cs)) (hc : vwCl[ci]? = some (C, T, N)) (hk : k0 < N) (hlink : Cond.fieldLink K.1.cls index (T k0).1 (T k0).2.1 (T k0).2.2.1 ∈ vl_tbl) (hk0 : cs[k0]? = some 0)
    (hd : decode K.2.1 pc = .ok (.getfield index, 3)) (k : vl_V nc S sc K d Post (pc + 3) lv (vl_iv (ρ h (k0 : Int)) :: st) μ ρ) : vl_V nc S sc K d Post pc lv (.ref h :: st) μ ρ :=
  vl_get hin hh hS hc hk hlink hk0 hd (fun ad => by rw [vl_g_r h3]; rfl) k
theorem vl_getJr {T : u_T} {N ci h k0 index : Nat} {cs : List Nat} {C : String} (hin : ∀ w ∈ u_ws C T N, w ∈ vl_tbl) (hh : h < nc) (h3 : 23 ≤ h) (hS : S h = .inr (ci, cs)) (hc : vwCl[ci]? = some (C, T, N)) (hk : k0 < N) (hlink : Cond.fieldLink K.1.cls index (T k0).1 (T k0).2.1 (T k0).2.2.1 ∈ vl_tbl) (hk0 : cs[k0]? = some 1)
    (hd : decode K.2.1 pc = .ok (.getfield index, 3)) (k : vl_V nc S sc K d Post (pc + 3) lv (vl_jv (ρ h (k0 : Int)) :: st) μ ρ) : vl_V nc S sc K d Post pc lv (.ref h :: st) μ ρ :=
  vl_get hin hh hS hc hk hlink hk0 hd (fun ad => by rw [vl_g_r h3]; rfl) k
theorem vl_getR {T : u_T} {N ci h k0 h2 index : Nat} {cs : List Nat} {C : String} (hin : ∀ w ∈ u_ws C T N, w ∈ vl_tbl) (hh : h < nc) (hS : S h = .inr (ci, cs)) (hc : vwCl[ci]? = some (C, T, N)) (hk : k0 < N) (hlink : Cond.fieldLink K.1.cls index (T k0).1 (T k0).2.1 (T k0).2.2.1 ∈ vl_tbl) (hk0 : cs[k0]? = some (h2 + 2))
    (hd : decode K.2.1 pc = .ok (.getfield index, 3)) (k : vl_V nc S sc K d Post (pc + 3) lv (.ref h2 :: st) μ ρ) : vl_V nc S sc K d Post pc lv (.ref h :: st) μ ρ :=
  vl_get hin hh hS hc hk hlink hk0 hd (fun ad => rfl) k
/-- a field is written -/
theorem vl_put {α : Type} {P : α → Prop} {T : u_T} {ty0 : Nat → FieldType} {N ci h k0 c0 index : Nat} {cs : List Nat} {C : String} {v : Value} {x : Int} {μ' ρ' : vl_M} {E : Option α} (hin : ∀ w ∈ u_ws C T N, w ∈ vl_tbl) (hty : ∀ k, k < N → parseFieldDescriptor (T k).2.2.1 = some (ty0 k)) (hnm : ∀ a, a < N → ∀ b, b < N → a ≠ b → (T a).2.1 ≠ (T b).2.1) (hh : h < nc) (hS : S h = .inr (ci, cs)) (hc : vwCl[ci]? = some (C, T, N)) (hk : k0 < N) (hlink : Cond.fieldLink K.1.cls index (T k0).1 (T k0).2.1 (T k0).2.2.1 ∈ vl_tbl) (hfin : (T k0).2.2.2 = false) (hk0 : cs[k0]? = some c0)
    (hn : narrow (ty0 k0) v = v) (hfit : fits (ty0 k0) v = true) (hv : ∀ ad, vl_fv ad x c0 = v ∧ vl_rz ad v = v) (hd : decode K.2.1 pc = .ok (.putfield index, 3)) (hg : ∀ (k : Nat) (j : Int), vl_g μ' ρ' k j = if k = h ∧ j = (k0 : Int) then x else vl_g μ ρ k j) (hE : vl_ok P E) (k : vl_ok P E → vl_V nc S sc K d Post (pc + 3) lv st μ' ρ') : vl_V nc S sc K d Post pc lv (v :: .ref h :: st) μ ρ :=
  fun p l e R s m args below meth c H locs cells slots Q D cA ad A ls hC hcs hR hl hret => by
    show W p l e R s m args below meth c H locs cells slots Q (F0 m pc ls (vl_rz ad v :: .ref (ad h) :: st.map (vl_rz ad)))
    rw [(hv ad).2]
    refine va_put (D := D) (v := v) (ty := ty0 k0) hC.1 hC.2.1 hC.2.2.2.2.1 hin ty0 hty hnm hC.2.2.2.1 hR.2.2.1 hR.1 hR.2.1 hR.2.2.2.1 h (vl_ws_obj hh hS) hc k0 hk (hC.2.2.2.2.1 _ hlink) (fun _ h9 => h9) hfin (hty k0 hk) hn hfit (by rw [List.length_mapIdx]; exact (List.getElem?_eq_some_iff.mp hk0).1) hd (fun H1 locs1 hP hD hS1 => ?_)
    rw [← (hv ad).1, vl_set_obj hh hS hk0 hg] at hP hD
    exact k hE p l e R s m args below meth c H1 locs1 cells slots Q D cA ad A ls hC hcs ⟨hP, hD, hR.2.2.1, hS1, hR.2.2.2.2⟩ hl hret
theorem vl_putIc {α : Type} {P : α → Prop} {T : u_T} {ty0 : Nat → FieldType} {N ci h k0 index : Nat} {cs : List Nat} {C : String} {x : Int} {E : vl_M → Option α} (hin : ∀ w ∈ u_ws C T N, w ∈ vl_tbl) (hty : ∀ k, k < N → parseFieldDescriptor (T k).2.2.1 = some (ty0 k)) (hnm : ∀ a, a < N → ∀ b, b < N → a ≠ b → (T a).2.1 ≠ (T b).2.1) (hh : h < nc) (h3 : h < 23) (hS : S h = .inr (ci, cs)) (hc : vwCl[ci]? = some (C, T, N)) (hk : k0 < N) (hlink : Cond.fieldLink K.1.cls index (T k0).1 (T k0).2.1 (T k0).2.2.1 ∈ vl_tbl) (hfin : (T k0).2.2.2 = false) (hk0 : cs[k0]? = some 0)
    (hn : narrow (ty0 k0) (vl_iv x) = vl_iv x ∧ fits (ty0 k0) (vl_iv x) = true) (hd : decode K.2.1 pc = .ok (.putfield index, 3)) (hE : vl_ok P (vl_lt (vl_up μ h (k0 : Int) x) E)) (k : ∀ μ, vl_ok P (E μ) → vl_V nc S sc K d Post (pc + 3) lv st μ ρ) : vl_V nc S sc K d Post pc lv (vl_iv x :: .ref h :: st) μ ρ :=
  vl_put (x := x) (c0 := 0) hin hty hnm hh hS hc hk hlink hfin hk0 hn.1 hn.2 (fun ad => ⟨rfl, rfl⟩) hd (vl_g_upc h3 _ _) hE (k _)
theorem vl_putIr {α : Type} {P : α → Prop} {T : u_T} {ty0 : Nat → FieldType} {N ci h k0 index : Nat} {cs : List Nat} {C : String} {x : Int} {E : vl_M → Option α} (hin : ∀ w ∈ u_ws C T N, w ∈ vl_tbl) (hty : ∀ k, k < N → parseFieldDescriptor (T k).2.2.1 = some (ty0 k)) (hnm : ∀ a, a < N → ∀ b, b < N → a ≠ b → (T a).2.1 ≠ (T b).2.1) (hh : h < nc) (h3 : 23 ≤ h) (hS : S h = .inr (ci, cs)) (hc : vwCl[ci]? = some (C, T, N)) (hk : k0 < N) (hlink : Cond.fieldLink K.1.cls index (T k0).1 (T k0).2.1 (T k0).2.2.1 ∈ vl_tbl) (hfin : (T k0).2.2.2 = false) (hk0 : cs[k0]? = some 0)
    (hn : narrow (ty0 k0) (vl_iv x) = vl_iv x ∧ fits (ty0 k0) (vl_iv x) = true) (hd : decode K.2.1 pc = .ok (.putfield index, 3)) (hE : vl_ok P (vl_lt (vl_up ρ h (k0 : Int) x) E)) (k : ∀ ρ, vl_ok P (E ρ) → vl_V nc S sc K d Post (pc + 3) lv st μ ρ) : vl_V nc S sc K d Post pc lv (vl_iv x :: .ref h :: st) μ ρ :=
  vl_put (x := x) (c0 := 0) hin hty hnm hh hS hc hk hlink hfin hk0 hn.1 hn.2 (fun ad => ⟨rfl, rfl⟩) hd (vl_g_upr h3 _ _) hE (k _)
theorem vl_putJr {α : Type} {P : α → Prop} {T : u_T} {ty0 : Nat → FieldType} {N ci h k0 index : Nat} {cs : List Nat} {C : String} {x : Int} {E : vl_M → Option α} (hin : ∀ w ∈ u_ws C T N, w ∈ vl_tbl) (hty : ∀ k, k < N → parseFieldDescriptor (T k).2.2.1 = some (ty0 k)) (hnm : ∀ a, a < N → ∀ b, b < N → a ≠ b → (T a).2.1 ≠ (T b).2.1) (hh : h < nc) (h3 : 23 ≤ h) (hS : S h = .inr (ci, cs)) (hc : vwCl[ci]? = some (C, T, N)) (hk : k0 < N) (hlink : Cond.fieldLink K.1.cls index (T k0).1 (T k0).2.1 (T k0).2.2.1 ∈ vl_tbl) (hfin : (T k0).2.2.2 = false) (hk0 : cs[k0]? = some 1)
    (hn : narrow (ty0 k0) (vl_jv x) = vl_jv x ∧ fits (ty0 k0) (vl_jv x) = true) (hd : decode K.2.1 pc = .ok (.putfield index, 3)) (hE : vl_ok P (vl_lt (vl_up ρ h (k0 : Int) x) E)) (k : ∀ ρ, vl_ok P (E ρ) → vl_V nc S sc K d Post (pc + 3) lv st μ ρ) : vl_V nc S sc K d Post pc lv (vl_jv x :: .ref h :: st) μ ρ :=
  vl_put (x := x) (c0 := 1) hin hty hnm hh hS hc hk hlink hfin hk0 hn.1 hn.2 (fun ad => ⟨rfl, rfl⟩) hd (vl_g_upr h3 _ _) hE (k _)
theorem vl_nI (x : Int) : narrow .int (vl_iv x) = vl_iv x ∧ fits .int (vl_iv x) = true := ⟨rfl, rfl⟩
theorem vl_nJ (x : Int) : narrow .long (vl_jv x) = vl_jv x ∧ fits .long (vl_jv x) = true := ⟨rfl, rfl⟩
theorem vl_nZ {x : Int} (h : x = 0 ∨ x = 1) : narrow .boolean (vl_iv x) = vl_iv x ∧ fits .boolean (vl_iv x) = true := by
  rcases h with rfl | rfl <;> exact ⟨by decide, by decide⟩
/-- an array's place is read -/
theorem vl_ald {h n : Nat} {i : Int} (hh : h < nc) (hS : S h = .inl n) (hr : vl_r32 i) (hi : 0 ≤ i ∧ i < (n : Int)) (hd : decode K.2.1 pc = .ok (.iaload, 1)) (k : vl_V nc S sc K d Post (pc + 1) lv (vl_iv (vl_g μ ρ h i) :: st) μ ρ) : vl_V nc S sc K d Post pc lv (vl_iv i :: .ref h :: st) μ ρ :=
  fun p l e R s m args below meth c H locs cells slots Q D cA ad A ls hC hcs hR hl hret => by
    obtain ⟨h1, h2⟩ := vl_inn hr hi
    refine va_iald (D := D) hC.1 hC.2.1 hR.2.2.1 hR.1 h 0 (vl_ws_arr hh hS) rfl h1 hd ?_
    rw [h2]
    exact k p l e R s m args below meth c H locs cells slots Q D cA ad A ls hC hcs hR hl hret
theorem vl_aldc {α : Type} {P : α → Prop} {E : Option α} {h n : Nat} {i : Int} (hh : h < nc) (h3 : h < 23) (hS : S h = .inl n) (hn : n ≤ 2147483648) (hd : decode K.2.1 pc = .ok (.iaload, 1)) (hE : vl_ok P (vl_gd (0 ≤ i ∧ i < (n : Int)) E)) (k : (0 ≤ i ∧ i < (n : Int)) → vl_r32 i → vl_ok P E → vl_V nc S sc K d Post (pc + 1) lv (vl_iv (μ h i) :: st) μ ρ) : vl_V nc S sc K d Post pc lv (vl_iv i :: .ref h :: st) μ ρ :=
  have q := vl_ok_gd hE
  vl_ald hh hS (vl_r32_in q.1 hn) q.1 hd (by rw [vl_g_c h3]; exact k q.1 (vl_r32_in q.1 hn) q.2)
theorem vl_aldr {α : Type} {P : α → Prop} {E : Option α} {h n : Nat} {i : Int} (hh : h < nc) (h3 : 23 ≤ h) (hS : S h = .inl n) (hn : n ≤ 2147483648) (hd : decode K.2.1 pc = .ok (.iaload, 1)) (hE : vl_ok P (vl_gd (0 ≤ i ∧ i < (n : Int)) E)) (k : (0 ≤ i ∧ i < (n : Int)) → vl_r32 i → vl_ok P E → vl_V nc S sc K d Post (pc + 1) lv (vl_iv (ρ h i) :: st) μ ρ) : vl_V nc S sc K d Post pc lv (vl_iv i :: .ref h :: st) μ ρ :=
  have q := vl_ok_gd hE
  vl_ald hh hS (vl_r32_in q.1 hn) q.1 hd (by rw [vl_g_r h3]; exact k q.1 (vl_r32_in q.1 hn) q.2)
/-- an index that is known to be within already -/
theorem vl_aldc1 {h n : Nat} {i : Int} (hh : h < nc) (h3 : h < 23) (hS : S h = .inl n) (hn : n ≤ 2147483648) (hi : 0 ≤ i ∧ i < (n : Int)) (hd : decode K.2.1 pc = .ok (.iaload, 1)) (k : vl_V nc S sc K d Post (pc + 1) lv (vl_iv (μ h i) :: st) μ ρ) : vl_V nc S sc K d Post pc lv (vl_iv i :: .ref h :: st) μ ρ :=
  vl_ald hh hS (vl_r32_in hi hn) hi hd (by rw [vl_g_c h3]; exact k)
theorem vl_aldr1 {h n : Nat} {i : Int} (hh : h < nc) (h3 : 23 ≤ h) (hS : S h = .inl n) (hn : n ≤ 2147483648) (hi : 0 ≤ i ∧ i < (n : Int)) (hd : decode K.2.1 pc = .ok (.iaload, 1)) (k : vl_V nc S sc K d Post (pc + 1) lv (vl_iv (ρ h i) :: st) μ ρ) : vl_V nc S sc K d Post pc lv (vl_iv i :: .ref h :: st) μ ρ :=
  vl_ald hh hS (vl_r32_in hi hn) hi hd (by rw [vl_g_r h3]; exact k)
theorem vl_ast {h n : Nat} {i v : Int} {μ' ρ' : vl_M} (hh : h < nc) (hS : S h = .inl n) (hr : vl_r32 i) (hi : 0 ≤ i ∧ i < (n : Int)) (hd : decode K.2.1 pc = .ok (.iastore, 1)) (hg : ∀ (k : Nat) (j : Int), vl_g μ' ρ' k j = if k = h ∧ j = i then v else vl_g μ ρ k j) (k : vl_V nc S sc K d Post (pc + 1) lv st μ' ρ') : vl_V nc S sc K d Post pc lv (vl_iv v :: vl_iv i :: .ref h :: st) μ ρ :=
  fun p l e R s m args below meth c H locs cells slots Q D cA ad A ls hC hcs hR hl hret => by
    obtain ⟨h1, h2⟩ := vl_inn hr hi
    refine va_iast (D := D) hC.1 hC.2.1 hR.2.2.1 hR.1 hR.2.1 hR.2.2.2.1 h 0 (vl_ws_arr hh hS) rfl h1 hd (fun H1 locs1 hP hD hS1 => ?_)
    rw [vl_set_arr hh hS h2 hg] at hP hD
    exact k p l e R s m args below meth c H1 locs1 cells slots Q D cA ad A ls hC hcs ⟨hP, hD, hR.2.2.1, hS1, hR.2.2.2.2⟩ hl hret
theorem vl_astc {α : Type} {P : α → Prop} {E : vl_M → Option α} {h n : Nat} {i v : Int} (hh : h < nc) (h3 : h < 23) (hS : S h = .inl n) (hn : n ≤ 2147483648) (hd : decode K.2.1 pc = .ok (.iastore, 1)) (hE : vl_ok P (vl_gd (0 ≤ i ∧ i < (n : Int)) (vl_lt (vl_up μ h i v) E))) (k : (0 ≤ i ∧ i < (n : Int)) → vl_r32 i → ∀ μ, vl_ok P (E μ) → vl_V nc S sc K d Post (pc + 1) lv st μ ρ) : vl_V nc S sc K d Post pc lv (vl_iv v :: vl_iv i :: .ref h :: st) μ ρ :=
  have q := vl_ok_gd hE
  vl_ast hh hS (vl_r32_in q.1 hn) q.1 hd (vl_g_upc h3 _ _) (k q.1 (vl_r32_in q.1 hn) _ q.2)
theorem vl_astr {α : Type} {P : α → Prop} {E : vl_M → Option α} {h n : Nat} {i v : Int} (hh : h < nc) (h3 : 23 ≤ h) (hS : S h = .inl n) (hn : n ≤ 2147483648) (hd : decode K.2.1 pc = .ok (.iastore, 1)) (hE : vl_ok P (vl_gd (0 ≤ i ∧ i < (n : Int)) (vl_lt (vl_up ρ h i v) E))) (k : (0 ≤ i ∧ i < (n : Int)) → vl_r32 i → ∀ ρ, vl_ok P (E ρ) → vl_V nc S sc K d Post (pc + 1) lv st μ ρ) : vl_V nc S sc K d Post pc lv (vl_iv v :: vl_iv i :: .ref h :: st) μ ρ :=
  have q := vl_ok_gd hE
  vl_ast hh hS (vl_r32_in q.1 hn) q.1 hd (vl_g_upr h3 _ _) (k q.1 (vl_r32_in q.1 hn) _ q.2)
theorem vl_astc1 {α : Type} {P : α → Prop} {E : vl_M → Option α} {h n : Nat} {i v : Int} (hh : h < nc) (h3 : h < 23) (hS : S h = .inl n) (hn : n ≤ 2147483648) (hi : 0 ≤ i ∧ i < (n : Int)) (hd : decode K.2.1 pc = .ok (.iastore, 1)) (hE : vl_ok P (vl_lt (vl_up μ h i v) E)) (k : ∀ μ, vl_ok P (E μ) → vl_V nc S sc K d Post (pc + 1) lv st μ ρ) : vl_V nc S sc K d Post pc lv (vl_iv v :: vl_iv i :: .ref h :: st) μ ρ :=
  vl_ast hh hS (vl_r32_in hi hn) hi hd (vl_g_upc h3 _ _) (k _ hE)
theorem vl_astr1 {α : Type} {P : α → Prop} {E : vl_M → Option α} {h n : Nat} {i v : Int} (hh : h < nc) (h3 : 23 ≤ h) (hS : S h = .inl n) (hn : n ≤ 2147483648) (hi : 0 ≤ i ∧ i < (n : Int)) (hd : decode K.2.1 pc = .ok (.iastore, 1)) (hE : vl_ok P (vl_lt (vl_up ρ h i v) E)) (k : ∀ ρ, vl_ok P (E ρ) → vl_V nc S sc K d Post (pc + 1) lv st μ ρ) : vl_V nc S sc K d Post pc lv (vl_iv v :: vl_iv i :: .ref h :: st) μ ρ :=
  vl_ast hh hS (vl_r32_in hi hn) hi hd (vl_g_upr h3 _ _) (k _ hE)
theorem vl_alen {h n : Nat} (hh : h < nc) (hS : S h = .inl n) (hd : decode K.2.1 pc = .ok (.arraylength, 1)) (k : vl_V nc S sc K d Post (pc + 1) lv (vl_iv (n : Int) :: st) μ ρ) : vl_V nc S sc K d Post pc lv (.ref h :: st) μ ρ :=
  fun p l e R s m args below meth c H locs cells slots Q D cA ad A ls hC hcs hR hl hret =>
    va_alen (D := D) hC.1 hC.2.1 hR.2.2.1 hR.1 h 0 (vl_ws_arr hh hS) rfl (Int32.ofInt_eq_ofNat).symm hd (k p l e R s m args below meth c H locs cells slots Q D cA ad A ls hC hcs hR hl hret)
/-- the end -/
theorem vl_ret {α : Type} {P : α → Prop} {a : α} {r : Int} {st' : List Value} (hst : st' = (vl_rv K.2.2.2 r).toList) (hd : vl_Rt K pc r) (hE : vl_ok P (some a)) (hP : P a → Post r μ ρ) : vl_V nc S sc K d Post pc lv st' μ ρ :=
  fun p l e R s m args below meth c H locs cells slots Q D cA ad A ls hC hcs hR hl hret => by
    obtain ⟨b, h1, h2⟩ := hE
    cases h1
    have e : st'.map (vl_rz ad) = (vl_rv K.2.2.2 r).toList := by
      rw [hst]
      unfold vl_rv
      split <;> rfl
    rw [e]
    exact hret r μ ρ H locs pc ls (hP h2) hR hd
end VLM
end
section
section VLC
variable {nc : Nat} {S : vl_Sh} {sc : Nat × (Nat → Int32)} {K : vl_K} {d : Nat} {Post : Int → vl_M → vl_M → Prop} {pc : Nat} {lv : List (Nat × Value)} {st st0 : List Value} {μ ρ : vl_M}
theorem vl_Ro.to {ad : Nat → Nat} {A : Nat → Prop} {s U : State} {H : Heap} {locs : List Loc} (h : vl_Ro sc ad A s) (hS : va_S A s.heap H locs) (hU : U.heap = H) (hvm : s.vm.Alike U.vm) : vl_Ro sc ad A U := by
  obtain ⟨h1, h2, h3, h4, h5⟩ := h
  refine ⟨?_, ?_, h3, ?_, ?_⟩
  · rw [hU]; exact (h1.kept (hS.2.1 _ h2 h3)).moved hvm
  · rw [hU]; exact Nat.lt_of_lt_of_le h2 hS.1
  · rw [hU]; exact (h4.kept (fun a ha hA => hS.2.1 a ha hA)).moved hvm
  · rw [hU]; exact (h5.kept (fun a ha hA => hS.2.1 a ha hA)).moved hvm
def vl_B (nc : Nat) (S : vl_Sh) (sc : Nat × (Nat → Int32)) (D : va_G) (cA : ClassId) (ad : Nat → Nat) (A : Nat → Prop) (μ ρ : vl_M) (U : State) : Prop := va_P D vwCl (vl_ws nc S cA ad μ ρ) U.heap ∧ va_D A (vl_ws nc S cA ad μ ρ) ∧ va_K D vwCl [(cA, .int)] U ∧ vl_Ro sc ad A U
def vl_Qc (nc : Nat) (S : vl_Sh) (K : vl_K) (Post : Int → vl_M → vl_M → Prop) (D : va_G) (cA : ClassId) (ad : Nat → Nat) (A : Nat → Prop) : Array Value → State → Outcome → State → Prop := fun _ st o t =>
  (∃ (r : Int) (μ' ρ' : vl_M), o = .returned (vl_rv K.2.2.2 r) ∧ Post r μ' ρ' ∧ va_P D vwCl (vl_ws nc S cA ad μ' ρ') t.heap ∧ va_D A (vl_ws nc S cA ad μ' ρ')) ∧ va_F A st t
theorem vl_blind {D : va_G} {cA : ClassId} {ad : Nat → Nat} {A : Nat → Prop} {as : List Value} : FrameBlind (va_Pc as (vl_B nc S sc D cA ad A μ ρ)) :=
  fun a U g mk q => ⟨q.1, q.2.1, q.2.2.1, va_K.moved (u := U) (U := U.calling g mk a) (Vm.Alike.refl U.vm) q.2.2.2.1, q.2.2.2.2.to (H := U.heap) va_S.rf rfl (Vm.Alike.refl U.vm)⟩
theorem vl_args_map (ad : Nat → Nat) (vs : List Value) : ∀ i : Nat, lv_args i (vs.map (vl_rz ad)) = (lv_args i vs).map (fun q => (q.1, vl_rz ad q.2)) := by
  induction vs with
  | nil => intro i; rfl
  | cons v t ih =>
    intro i
    simp only [List.map_cons, lv_args, vl_cat, ih]
theorem vl_sl_len (ad : Nat → Nat) (vs : List Value) : (lg_sl (vs.map (vl_rz ad))).length = (lg_sl vs).length := by
  induction vs with
  | nil => rfl
  | cons v t ih =>
    unfold lg_sl at ih ⊢
    simp only [List.map_cons, List.flatMap_cons, List.length_append, vl_cat, ih]
    split <;> rfl
set_option maxHeartbeats 1000000 in
theorem vl_met (l : Launch) (D : va_G) (cA : ClassId) (ad : Nat → Nat) (A : Nat → Prop) {K : vl_K} {d : Nat} {Post : Int → vl_M → vl_M → Prop} {As : List Value} (hy : plainName K.1.cls = true) (hsl : (lg_sl As).length ≤ K.2.2.1) (hV : vl_V nc S sc K d Post 0 (lv_args 0 As) [] μ ρ) :
    Met l K.1 (Cond.code K.1 K.2.1 K.2.2.1 K.2.2.2 :: vl_tbl) ({ frames := d, cells := 0, slots := 0, locals := 40 * d }) (va_Pc (As.map (vl_rz ad)) (vl_B nc S sc D cA ad A μ ρ)) (vl_Qc nc S K Post D cA ad A) 0 0 A := by
  refine Met.ofW (cc := K.2.1) (maxL := K.2.2.1) (ret := K.2.2.2) hy rfl ?_
  intro p e s m args below meth c s₁ B hml hv
  obtain ⟨rfl, hP, hD, hK, hRo⟩ := hv
  have hts0 := atoms_spec (ws := Cond.code K.1 K.2.1 K.2.2.1 K.2.2.2 :: vl_tbl) B.pre
  have hts : ∀ w ∈ vl_tbl, w.before (As.map (vl_rz ad)).toArray s = true := fun w hw => hts0 w (List.mem_cons_of_mem _ hw)
  have hown : s.vm.findClass K.1.cls = some m.cls := findClass_of_methodNamed B.named
  have hlocks := B.notSynchronized
  have hx := B.exec
  have hb := B.bytes
  have hr := B.returns
  rw [lg_entry_eq]
  have hl := lv_entry (As.map (vl_rz ad)) (n := K.2.2.1) (by rw [vl_sl_len]; exact hsl)
  rw [vl_args_map] at hl
  refine hV p l e _ s m _ below meth c s.heap [] 0 0 _ D cA ad A _ ⟨hx, hb, hml, hown, hts, hr, Nat.le_refl d, Nat.le_refl _, hlocks⟩ ⟨Nat.zero_le _, Nat.zero_le _⟩ ⟨hP, hD, hK, va_S.rf, hRo⟩ hl (fun r μ' ρ' H' locs' pc' ls' hPost hR' hRt => ?_)
  have hq : ∀ t : State, t.heap = H' → s.WarmedH t.vm → vl_Qc nc S K Post D cA ad A (As.map (vl_rz ad)).toArray s (.returned (vl_rv K.2.2.2 r)) t := fun t ht _ => ⟨⟨r, μ', ρ', rfl, hPost, by rw [ht]; exact hR'.1, hR'.2.1⟩, hR'.2.2.2.1.F ht⟩
  have hf := hR'.2.2.2.1.2.2
  obtain ⟨y, code, mx, ret⟩ := K
  cases ret with
  | none => exact W.vret hx hb hr hq hf hRt hlocks
  | some ty =>
    cases ty with
    | int => exact W.iret hx hb hr hq hf hRt hlocks
    | boolean => exact W.zret hx hb hr (vl_nZ hRt.2).1 hq hf hRt.1 hlocks
    | long => exact W.lret hx hb hr hq hf hRt hlocks
    | _ => exact hRt.elim
theorem vl_after {p : Program} {l : Launch} {e : Env} {R : Room} {s : State} {m : MethodId} {args : Array Value} {below : List Frame} {meth : Method} {c : Code} {H : Heap} {locs : List Loc} {cells slots : Nat} {Q : State → Prop} {ls : Array Slot} {rest stk : List Value} {free : Addr → Prop} {A : Nat → Prop} {Qa : State → Outcome → State → Prop} {B : Option Value → State → Prop}
    (hr : va_Run p l e R s m args below meth c H locs cells slots 0 0 (F0 m pc ls stk) rest Qa free) (hS : va_S A s.heap H locs) (hf : ∀ q, free q → A q) (hQ : ∀ st v t, Qa st (.returned v) t → B v t ∧ va_F A st t)
    (kk : ∀ (v : Option Value) (t : State) (H1 : Heap) (locs1 : List Loc), t.heap = H1 → B v t → va_S A s.heap H1 locs1 → W p l e R s m args below meth c H1 locs1 cells slots Q (F0 m (pc + 3) ls (v.toList ++ rest))) : W p l e R s m args below meth c H locs cells slots Q (F0 m pc ls stk) := by
  intro T hT X
  obtain ⟨v, st₀, t, T', L, h0, X', hL, e1, e2, hq, stp⟩ := hr T hT X
  obtain ⟨hb, hz, hk⟩ := hQ _ _ _ hq
  rw [h0] at hz hk
  obtain ⟨t2, a1, b1⟩ := kk v t T'.heap (locs ++ L) e1.symm hb
    ⟨Nat.le_trans hS.1 (by rw [e1]; exact hz), fun q h1 h2 => by rw [e1, hk q (Nat.lt_of_lt_of_le h1 hS.1) h2]; exact hS.2.1 q h1 h2, fun q hq => by
      rcases List.mem_append.mp hq with h | h
      · exact hS.2.2 q h
      · exact hf _ (hL q h)⟩ T' rfl X'
  exact ⟨t2, stp t2 a1, b1⟩
theorem vl_good : GoodIn vl_tbl vl_tbl := fun w hw => ⟨hw, good_of_word (List.mem_filter.mp hw).2⟩
/-- a call's words, all of them in the tables -/
def vl_LkV (own : String) (idx : Nat) (K' : vl_K) (C : String) (n : Nat) : Prop := (K'.1.cls = C ∧ K'.1.cls ≠ "java/lang/invoke/MethodHandle" ∧ K'.1.cls ≠ "java/lang/invoke/VarHandle" ∧ (parseMethodDescriptor K'.1.desc).map (fun d => d.parameters.length) = some n) ∧ (plainName K'.1.cls = true ∧ K'.2.2.1 ≤ 21) ∧ Cond.methodLink own idx K'.1 ∈ vl_tbl ∧ Cond.instanceMethod K'.1 ∈ vl_tbl ∧ Cond.selects C K'.1 K'.1 ∈ vl_tbl ∧ Cond.initialized C ∈ vl_tbl ∧ Cond.code K'.1 K'.2.1 K'.2.2.1 K'.2.2.2 ∈ vl_tbl
def vl_LkS (own : String) (idx : Nat) (K' : vl_K) (n : Nat) : Prop := (K'.1.cls ≠ "java/lang/invoke/MethodHandle" ∧ K'.1.cls ≠ "java/lang/invoke/VarHandle" ∧ (parseMethodDescriptor K'.1.desc).map (fun d => d.parameters.length) = some n) ∧ (plainName K'.1.cls = true ∧ K'.2.2.1 ≤ 21) ∧ Cond.methodLink own idx K'.1 ∈ vl_tbl ∧ Cond.static K'.1 ∈ vl_tbl ∧ Cond.initialized K'.1.cls ∈ vl_tbl ∧ Cond.code K'.1 K'.2.1 K'.2.2.1 K'.2.2.2 ∈ vl_tbl
theorem vl_goodc {y : MethodName} {b : ByteArray} {n : Nat} {r : Option FieldType} (h : Cond.code y b n r ∈ vl_tbl) : GoodIn vl_tbl (Cond.code y b n r :: vl_tbl) := fun w hw => (List.mem_cons.mp hw).elim (fun e => e ▸ vl_good _ h) (vl_good w)
theorem vl_gV {own : String} {idx n : Nat} {K' : vl_K} {C : String} (h : vl_LkV own idx K' C n) : GoodIn vl_tbl (wsV own idx C K'.1 (Cond.code K'.1 K'.2.1 K'.2.2.1 K'.2.2.2 :: vl_tbl)) := by
  obtain ⟨-, -, h1, h2, h3, h4, h5⟩ := h
  intro w hw
  rcases List.mem_append.mp hw with hw | hw
  · simp only [List.mem_cons, List.not_mem_nil, or_false] at hw
    rcases hw with rfl | rfl | rfl | rfl
    · exact vl_good _ h1
    · exact vl_good _ h2
    · exact vl_good _ h3
    · exact vl_good _ h4
  · exact vl_goodc h5 w hw
theorem vl_gS {own : String} {idx n : Nat} {K' : vl_K} (h : vl_LkS own idx K' n) : GoodIn vl_tbl (va_wsS own idx K'.1 (Cond.code K'.1 K'.2.1 K'.2.2.1 K'.2.2.2 :: vl_tbl)) := by
  obtain ⟨-, -, h1, h2, h3, h5⟩ := h
  intro w hw
  rcases List.mem_append.mp hw with hw | hw
  · simp only [List.mem_cons, List.not_mem_nil, or_false] at hw
    rcases hw with rfl | rfl | rfl
    · exact vl_good _ h1
    · exact vl_good _ h2
    · exact vl_good _ h3
  · exact vl_goodc h5 w hw
theorem vl_room {ad : Nat → Nat} (h : (st.map fun v => v.category).sum ≤ 8) : ((st.map (vl_rz ad)).map fun v => v.category).sum ≤ 8 := by
  rw [List.map_map]
  have e : ((fun v : Value => v.category) ∘ vl_rz ad) = fun v => v.category := funext (fun v => vl_cat ad v)
  rw [e]; exact h
theorem vl_rvz (ad : Nat → Nat) (ret : Option FieldType) (r : Int) : ((vl_rv ret r).toList ++ st).map (vl_rz ad) = (vl_rv ret r).toList ++ st.map (vl_rz ad) := by
  rw [List.map_append]
  congr 1
  unfold vl_rv
  split <;> rfl
set_option maxHeartbeats 1000000 in
theorem vl_callV {K' : vl_K} {d' : Nat} {Post' : Int → vl_M → vl_M → Prop} {h ci idx n : Nat} {cs : List Nat} {As : List Value} {C : String} {T : u_T} {N : Nat} (hk : vl_LkV K.1.cls idx K' C n) (hd' : d' + 1 ≤ d) (hh : h < nc) (hS : S h = .inr (ci, cs)) (hci : vwCl[ci]? = some (C, T, N)) (hn : As.length = n) (hsl : (lg_sl (.ref h :: As)).length ≤ K'.2.2.1) (hst : st0 = As.reverse ++ .ref h :: st) (hrm : (st.map fun v => v.category).sum ≤ 8) (hd : decode K.2.1 pc = .ok (.invokevirtual idx, 3))
    (hV : vl_V nc S sc K' d' Post' 0 (lv_args 0 (.ref h :: As)) [] μ ρ) (k : ∀ r μ' ρ', Post' r μ' ρ' → vl_V nc S sc K d Post (pc + 3) lv ((vl_rv K'.2.2.2 r).toList ++ st) μ' ρ') : vl_V nc S sc K d Post pc lv st0 μ ρ := by
  intro p l e R s m args below meth c H locs cells slots Q D cA ad A ls hC hcs hR hl hret
  subst hst
  have hM := vl_met l D cA ad A hk.2.1.1 hsl hV
  have hrun := va_runV (p := p) (e := e) (R := R) (below := below) (meth := meth) (H := H) (locs := locs) (cells := cells) (slots := slots) (g := F0 m pc ls ((As.reverse ++ .ref h :: st).map (vl_rz ad))) (As := As.map (vl_rz ad)) (rest := st.map (vl_rz ad)) (b := ad h) (C := C) ⟨hC.1, hC.2.1, hC.2.2.1, hC.2.2.2.1, hC.2.2.2.2.1⟩ hM
    (cwV n hC.2.2.2.2.1 (vl_gV hk) rfl rfl rfl ⟨hk.1.1, hk.1.2.1, hk.1.2.2.1, hk.1.2.2.2⟩ ⟨by have := hC.2.2.2.2.2.2.1; show d' + 1 ≤ R.frames; omega, by have := hC.2.2.2.2.2.2.2.1; have := hk.2.1.2; show 8 + (K'.2.2.1 + 11) + 40 * d' ≤ R.locals; omega⟩)
    ⟨vl_blind, va_recv hR.2.2.1 hR.1 hci (vl_ws_obj hh hS), fun U hU hW => ⟨rfl, by rw [hU]; exact hR.1, hR.2.1, va_K.moved hW.alike hR.2.2.1, hR.2.2.2.2.to hR.2.2.2.1 hU hW.alike⟩⟩
    rfl (by rw [List.length_map]; exact hn) hl.1 (by simp [List.map_append, List.map_reverse]; rfl) (lv_room (vl_room hrm)) hd ⟨hcs.1, hcs.2⟩
  refine vl_after (B := fun v t => ∃ (r : Int) (μ' ρ' : vl_M), v = vl_rv K'.2.2.2 r ∧ Post' r μ' ρ' ∧ va_P D vwCl (vl_ws nc S cA ad μ' ρ') t.heap ∧ va_D A (vl_ws nc S cA ad μ' ρ')) hrun hR.2.2.2.1 (fun _ h => h) (fun st v t hq => ?_) (fun v t H1 locs1 ht hB hS1 => ?_)
  · obtain ⟨⟨r, μ', ρ', e1, e2, e3, e4⟩, hF⟩ := hq
    cases e1
    exact ⟨⟨r, μ', ρ', rfl, e2, e3, e4⟩, hF⟩
  · obtain ⟨r, μ', ρ', rfl, e2, e3, e4⟩ := hB
    rw [ht] at e3
    have := k r μ' ρ' e2 p l e R s m args below meth c H1 locs1 cells slots Q D cA ad A ls hC hcs ⟨e3, e4, hR.2.2.1, hS1, hR.2.2.2.2⟩ hl hret
    rw [vl_rvz] at this
    exact this
set_option maxHeartbeats 1000000 in
theorem vl_callS {K' : vl_K} {d' : Nat} {Post' : Int → vl_M → vl_M → Prop} {idx n : Nat} {As : List Value} (hk : vl_LkS K.1.cls idx K' n) (hd' : d' + 1 ≤ d) (hn : As.length = n) (hsl : (lg_sl As).length ≤ K'.2.2.1) (hst : st0 = As.reverse ++ st) (hrm : (st.map fun v => v.category).sum ≤ 8) (hd : decode K.2.1 pc = .ok (.invokestatic idx, 3))
    (hV : vl_V nc S sc K' d' Post' 0 (lv_args 0 As) [] μ ρ) (k : ∀ r μ' ρ', Post' r μ' ρ' → vl_V nc S sc K d Post (pc + 3) lv ((vl_rv K'.2.2.2 r).toList ++ st) μ' ρ') : vl_V nc S sc K d Post pc lv st0 μ ρ := by
  intro p l e R s m args below meth c H locs cells slots Q D cA ad A ls hC hcs hR hl hret
  subst hst
  have hM := vl_met l D cA ad A hk.2.1.1 hsl hV
  have hrun := va_runS (p := p) (e := e) (R := R) (below := below) (meth := meth) (H := H) (locs := locs) (cells := cells) (slots := slots) (g := F0 m pc ls ((As.reverse ++ st).map (vl_rz ad))) (As := As.map (vl_rz ad)) (rest := st.map (vl_rz ad)) ⟨hC.1, hC.2.1, hC.2.2.1, hC.2.2.2.1, hC.2.2.2.2.1⟩ hM
    (va_cwS n hC.2.2.2.2.1 (vl_gS hk) rfl rfl rfl ⟨hk.1.1, hk.1.2.1, hk.1.2.2⟩ ⟨by have := hC.2.2.2.2.2.2.1; show d' + 1 ≤ R.frames; omega, by have := hC.2.2.2.2.2.2.2.1; have := hk.2.1.2; show 8 + (K'.2.2.1 + 11) + 40 * d' ≤ R.locals; omega⟩)
    ⟨vl_blind, fun U hU hW => ⟨rfl, by rw [hU]; exact hR.1, hR.2.1, va_K.moved hW.alike hR.2.2.1, hR.2.2.2.2.to hR.2.2.2.1 hU hW.alike⟩⟩
    rfl (by rw [List.length_map]; exact hn) hl.1 (by simp [List.map_append, List.map_reverse]) (lv_room (vl_room hrm)) hd ⟨hcs.1, hcs.2⟩
  refine vl_after (B := fun v t => ∃ (r : Int) (μ' ρ' : vl_M), v = vl_rv K'.2.2.2 r ∧ Post' r μ' ρ' ∧ va_P D vwCl (vl_ws nc S cA ad μ' ρ') t.heap ∧ va_D A (vl_ws nc S cA ad μ' ρ')) hrun hR.2.2.2.1 (fun _ h => h) (fun st v t hq => ?_) (fun v t H1 locs1 ht hB hS1 => ?_)
  · obtain ⟨⟨r, μ', ρ', e1, e2, e3, e4⟩, hF⟩ := hq
    cases e1
    exact ⟨⟨r, μ', ρ', rfl, e2, e3, e4⟩, hF⟩
  · obtain ⟨r, μ', ρ', rfl, e2, e3, e4⟩ := hB
    rw [ht] at e3
    have := k r μ' ρ' e2 p l e R s m args below meth c H1 locs1 cells slots Q D cA ad A ls hC hcs ⟨e3, e4, hR.2.2.1, hS1, hR.2.2.2.2⟩ hl hret
    rw [vl_rvz] at this
    exact this
theorem vl_bind {α β : Type} {P : α → Prop} {F : Option β} {G : β → Option α} (hE : vl_ok P (F.bind G)) : ∃ b, F = some b ∧ vl_ok P (G b) := by
  obtain ⟨a, h1, h2⟩ := hE
  cases F with
  | none => cases h1
  | some b => exact ⟨b, rfl, a, h1, h2⟩
theorem vl_VcWI {α : Type} {P : α → Prop} {F : Option (Int × vl_M)} {G : (Int × vl_M) → Option α} {K' : vl_K} {d' h ci idx n : Nat} {cs : List Nat} {As : List Value} {C : String} {T : u_T} {N : Nat} (hk : vl_LkV K.1.cls idx K' C n) (hrt : ∀ r, vl_rv K'.2.2.2 r = some (vl_iv r)) (hd' : d' + 1 ≤ d) (hh : h < nc) (hS : S h = .inr (ci, cs)) (hci : vwCl[ci]? = some (C, T, N)) (hn : As.length = n) (hsl : (lg_sl (.ref h :: As)).length ≤ K'.2.2.1) (hst : st0 = As.reverse ++ .ref h :: st) (hrm : (st.map fun v => v.category).sum ≤ 8) (hd : decode K.2.1 pc = .ok (.invokevirtual idx, 3)) (hE : vl_ok P (F.bind G))
    (hv : ∀ Post', vl_ok (fun b => Post' (b.1) (b.2) (ρ)) F → vl_V nc S sc K' d' Post' 0 (lv_args 0 (.ref h :: As)) [] μ ρ) (k : ∀ b, vl_ok P (G b) → vl_V nc S sc K d Post (pc + 3) lv (vl_iv b.1 :: st) (b.2) (ρ)) : vl_V nc S sc K d Post pc lv st0 μ ρ := by
  obtain ⟨b, h1, h2⟩ := vl_bind hE
  refine vl_callV hk hd' hh hS hci hn hsl hst hrm hd (hv (fun r m1 m2 => r = b.1 ∧ m1 = b.2 ∧ m2 = ρ) ⟨b, h1, rfl, rfl, rfl⟩) (fun r m1 m2 q => ?_)
  obtain ⟨e1, e2, e3⟩ := q
  rw [e1, e2, e3, hrt]
  exact k b h2
theorem vl_VcWV {α : Type} {P : α → Prop} {F : Option (vl_M)} {G : (vl_M) → Option α} {K' : vl_K} {d' h ci idx n : Nat} {cs : List Nat} {As : List Value} {C : String} {T : u_T} {N : Nat} (hk : vl_LkV K.1.cls idx K' C n) (hrt : ∀ r, vl_rv K'.2.2.2 r = none) (hd' : d' + 1 ≤ d) (hh : h < nc) (hS : S h = .inr (ci, cs)) (hci : vwCl[ci]? = some (C, T, N)) (hn : As.length = n) (hsl : (lg_sl (.ref h :: As)).length ≤ K'.2.2.1) (hst : st0 = As.reverse ++ .ref h :: st) (hrm : (st.map fun v => v.category).sum ≤ 8) (hd : decode K.2.1 pc = .ok (.invokevirtual idx, 3)) (hE : vl_ok P (F.bind G))
    (hv : ∀ Post', vl_ok (fun b => Post' (0) (b) (ρ)) F → vl_V nc S sc K' d' Post' 0 (lv_args 0 (.ref h :: As)) [] μ ρ) (k : ∀ b, vl_ok P (G b) → vl_V nc S sc K d Post (pc + 3) lv (st) (b) (ρ)) : vl_V nc S sc K d Post pc lv st0 μ ρ := by
  obtain ⟨b, h1, h2⟩ := vl_bind hE
  refine vl_callV hk hd' hh hS hci hn hsl hst hrm hd (hv (fun r m1 m2 => r = 0 ∧ m1 = b ∧ m2 = ρ) ⟨b, h1, rfl, rfl, rfl⟩) (fun r m1 m2 q => ?_)
  obtain ⟨e1, e2, e3⟩ := q
  rw [e1, e2, e3, hrt]
  exact k b h2
theorem vl_VrWI {α : Type} {P : α → Prop} {F : Option (Int × vl_M)} {G : (Int × vl_M) → Option α} {K' : vl_K} {d' h ci idx n : Nat} {cs : List Nat} {As : List Value} {C : String} {T : u_T} {N : Nat} (hk : vl_LkV K.1.cls idx K' C n) (hrt : ∀ r, vl_rv K'.2.2.2 r = some (vl_iv r)) (hd' : d' + 1 ≤ d) (hh : h < nc) (hS : S h = .inr (ci, cs)) (hci : vwCl[ci]? = some (C, T, N)) (hn : As.length = n) (hsl : (lg_sl (.ref h :: As)).length ≤ K'.2.2.1) (hst : st0 = As.reverse ++ .ref h :: st) (hrm : (st.map fun v => v.category).sum ≤ 8) (hd : decode K.2.1 pc = .ok (.invokevirtual idx, 3)) (hE : vl_ok P (F.bind G))
    (hv : ∀ Post', vl_ok (fun b => Post' (b.1) (μ) (b.2)) F → vl_V nc S sc K' d' Post' 0 (lv_args 0 (.ref h :: As)) [] μ ρ) (k : ∀ b, vl_ok P (G b) → vl_V nc S sc K d Post (pc + 3) lv (vl_iv b.1 :: st) (μ) (b.2)) : vl_V nc S sc K d Post pc lv st0 μ ρ := by
  obtain ⟨b, h1, h2⟩ := vl_bind hE
  refine vl_callV hk hd' hh hS hci hn hsl hst hrm hd (hv (fun r m1 m2 => r = b.1 ∧ m1 = μ ∧ m2 = b.2) ⟨b, h1, rfl, rfl, rfl⟩) (fun r m1 m2 q => ?_)
  obtain ⟨e1, e2, e3⟩ := q
  rw [e1, e2, e3, hrt]
  exact k b h2
theorem vl_VrWV {α : Type} {P : α → Prop} {F : Option (vl_M)} {G : (vl_M) → Option α} {K' : vl_K} {d' h ci idx n : Nat} {cs : List Nat} {As : List Value} {C : String} {T : u_T} {N : Nat} (hk : vl_LkV K.1.cls idx K' C n) (hrt : ∀ r, vl_rv K'.2.2.2 r = none) (hd' : d' + 1 ≤ d) (hh : h < nc) (hS : S h = .inr (ci, cs)) (hci : vwCl[ci]? = some (C, T, N)) (hn : As.length = n) (hsl : (lg_sl (.ref h :: As)).length ≤ K'.2.2.1) (hst : st0 = As.reverse ++ .ref h :: st) (hrm : (st.map fun v => v.category).sum ≤ 8) (hd : decode K.2.1 pc = .ok (.invokevirtual idx, 3)) (hE : vl_ok P (F.bind G))
    (hv : ∀ Post', vl_ok (fun b => Post' (0) (μ) (b)) F → vl_V nc S sc K' d' Post' 0 (lv_args 0 (.ref h :: As)) [] μ ρ) (k : ∀ b, vl_ok P (G b) → vl_V nc S sc K d Post (pc + 3) lv (st) (μ) (b)) : vl_V nc S sc K d Post pc lv st0 μ ρ := by
  obtain ⟨b, h1, h2⟩ := vl_bind hE
  refine vl_callV hk hd' hh hS hci hn hsl hst hrm hd (hv (fun r m1 m2 => r = 0 ∧ m1 = μ ∧ m2 = b) ⟨b, h1, rfl, rfl, rfl⟩) (fun r m1 m2 q => ?_)
  obtain ⟨e1, e2, e3⟩ := q
  rw [e1, e2, e3, hrt]
  exact k b h2
theorem vl_VpI {α : Type} {P : α → Prop} {F : Option (Int)} {G : (Int) → Option α} {K' : vl_K} {d' h ci idx n : Nat} {cs : List Nat} {As : List Value} {C : String} {T : u_T} {N : Nat} (hk : vl_LkV K.1.cls idx K' C n) (hrt : ∀ r, vl_rv K'.2.2.2 r = some (vl_iv r)) (hd' : d' + 1 ≤ d) (hh : h < nc) (hS : S h = .inr (ci, cs)) (hci : vwCl[ci]? = some (C, T, N)) (hn : As.length = n) (hsl : (lg_sl (.ref h :: As)).length ≤ K'.2.2.1) (hst : st0 = As.reverse ++ .ref h :: st) (hrm : (st.map fun v => v.category).sum ≤ 8) (hd : decode K.2.1 pc = .ok (.invokevirtual idx, 3)) (hE : vl_ok P (F.bind G))
    (hv : ∀ Post', vl_ok (fun b => Post' (b) (μ) (ρ)) F → vl_V nc S sc K' d' Post' 0 (lv_args 0 (.ref h :: As)) [] μ ρ) (k : ∀ b, vl_ok P (G b) → vl_V nc S sc K d Post (pc + 3) lv (vl_iv b :: st) (μ) (ρ)) : vl_V nc S sc K d Post pc lv st0 μ ρ := by
  obtain ⟨b, h1, h2⟩ := vl_bind hE
  refine vl_callV hk hd' hh hS hci hn hsl hst hrm hd (hv (fun r m1 m2 => r = b ∧ m1 = μ ∧ m2 = ρ) ⟨b, h1, rfl, rfl, rfl⟩) (fun r m1 m2 q => ?_)
  obtain ⟨e1, e2, e3⟩ := q
  rw [e1, e2, e3, hrt]
  exact k b h2
theorem vl_VpJ {α : Type} {P : α → Prop} {F : Option (Int)} {G : (Int) → Option α} {K' : vl_K} {d' h ci idx n : Nat} {cs : List Nat} {As : List Value} {C : String} {T : u_T} {N : Nat} (hk : vl_LkV K.1.cls idx K' C n) (hrt : ∀ r, vl_rv K'.2.2.2 r = some (vl_jv r)) (hd' : d' + 1 ≤ d) (hh : h < nc) (hS : S h = .inr (ci, cs)) (hci : vwCl[ci]? = some (C, T, N)) (hn : As.length = n) (hsl : (lg_sl (.ref h :: As)).length ≤ K'.2.2.1) (hst : st0 = As.reverse ++ .ref h :: st) (hrm : (st.map fun v => v.category).sum ≤ 8) (hd : decode K.2.1 pc = .ok (.invokevirtual idx, 3)) (hE : vl_ok P (F.bind G))
    (hv : ∀ Post', vl_ok (fun b => Post' (b) (μ) (ρ)) F → vl_V nc S sc K' d' Post' 0 (lv_args 0 (.ref h :: As)) [] μ ρ) (k : ∀ b, vl_ok P (G b) → vl_V nc S sc K d Post (pc + 3) lv (vl_jv b :: st) (μ) (ρ)) : vl_V nc S sc K d Post pc lv st0 μ ρ := by
  obtain ⟨b, h1, h2⟩ := vl_bind hE
  refine vl_callV hk hd' hh hS hci hn hsl hst hrm hd (hv (fun r m1 m2 => r = b ∧ m1 = μ ∧ m2 = ρ) ⟨b, h1, rfl, rfl, rfl⟩) (fun r m1 m2 q => ?_)
  obtain ⟨e1, e2, e3⟩ := q
  rw [e1, e2, e3, hrt]
  exact k b h2
theorem vl_SpI {α : Type} {P : α → Prop} {F : Option (Int)} {G : (Int) → Option α} {K' : vl_K} {d' idx n : Nat} {As : List Value} (hk : vl_LkS K.1.cls idx K' n) (hrt : ∀ r, vl_rv K'.2.2.2 r = some (vl_iv r)) (hd' : d' + 1 ≤ d) (hn : As.length = n) (hsl : (lg_sl As).length ≤ K'.2.2.1) (hst : st0 = As.reverse ++ st) (hrm : (st.map fun v => v.category).sum ≤ 8) (hd : decode K.2.1 pc = .ok (.invokestatic idx, 3)) (hE : vl_ok P (F.bind G))
    (hv : ∀ Post', vl_ok (fun b => Post' (b) (μ) (ρ)) F → vl_V nc S sc K' d' Post' 0 (lv_args 0 As) [] μ ρ) (k : ∀ b, vl_ok P (G b) → vl_V nc S sc K d Post (pc + 3) lv (vl_iv b :: st) (μ) (ρ)) : vl_V nc S sc K d Post pc lv st0 μ ρ := by
  obtain ⟨b, h1, h2⟩ := vl_bind hE
  refine vl_callS hk hd' hn hsl hst hrm hd (hv (fun r m1 m2 => r = b ∧ m1 = μ ∧ m2 = ρ) ⟨b, h1, rfl, rfl, rfl⟩) (fun r m1 m2 q => ?_)
  obtain ⟨e1, e2, e3⟩ := q
  rw [e1, e2, e3, hrt]
  exact k b h2
theorem vl_SpJ {α : Type} {P : α → Prop} {F : Option (Int)} {G : (Int) → Option α} {K' : vl_K} {d' idx n : Nat} {As : List Value} (hk : vl_LkS K.1.cls idx K' n) (hrt : ∀ r, vl_rv K'.2.2.2 r = some (vl_jv r)) (hd' : d' + 1 ≤ d) (hn : As.length = n) (hsl : (lg_sl As).length ≤ K'.2.2.1) (hst : st0 = As.reverse ++ st) (hrm : (st.map fun v => v.category).sum ≤ 8) (hd : decode K.2.1 pc = .ok (.invokestatic idx, 3)) (hE : vl_ok P (F.bind G))
    (hv : ∀ Post', vl_ok (fun b => Post' (b) (μ) (ρ)) F → vl_V nc S sc K' d' Post' 0 (lv_args 0 As) [] μ ρ) (k : ∀ b, vl_ok P (G b) → vl_V nc S sc K d Post (pc + 3) lv (vl_jv b :: st) (μ) (ρ)) : vl_V nc S sc K d Post pc lv st0 μ ρ := by
  obtain ⟨b, h1, h2⟩ := vl_bind hE
  refine vl_callS hk hd' hn hsl hst hrm hd (hv (fun r m1 m2 => r = b ∧ m1 = μ ∧ m2 = ρ) ⟨b, h1, rfl, rfl, rfl⟩) (fun r m1 m2 q => ?_)
  obtain ⟨e1, e2, e3⟩ := q
  rw [e1, e2, e3, hrt]
  exact k b h2
theorem vl_lcmp {x y : Int} (hx : vl_r64 x) (hy : vl_r64 y) : lg_cmp (Int64.ofInt x) (Int64.ofInt y) = if y < x then 1 else if x = y then 0 else -1 := by
  unfold lg_cmp
  have e1 : (Int64.ofInt x > Int64.ofInt y) ↔ y < x := vl_lt64 hy hx
  have e2 := vl_eq64 hx hy
  simp only [e1, e2]
theorem vl_lc_eq {x y : Int} : ((if y < x then (1 : Int32) else if x = y then 0 else -1) = 0) ↔ x = y := by
  by_cases h1 : y < x
  · rw [if_pos h1]; exact ⟨fun h => absurd h (by decide), fun h => by omega⟩
  · rw [if_neg h1]
    by_cases h2 : x = y
    · rw [if_pos h2]; exact ⟨fun _ => h2, fun _ => rfl⟩
    · rw [if_neg h2]; exact ⟨fun h => absurd h (by decide), fun h => absurd h h2⟩
theorem vl_lc_lt {x y : Int} : ((if y < x then (1 : Int32) else if x = y then 0 else -1) < 0) ↔ x < y := by
  by_cases h1 : y < x
  · rw [if_pos h1]; exact ⟨fun h => absurd h (by decide), fun h => by omega⟩
  · rw [if_neg h1]
    by_cases h2 : x = y
    · rw [if_pos h2]; exact ⟨fun h => absurd h (by decide), fun h => by omega⟩
    · rw [if_neg h2]; exact ⟨fun _ => by omega, fun _ => by decide⟩
theorem vl_lc_gt {x y : Int} : (0 < (if y < x then (1 : Int32) else if x = y then 0 else -1)) ↔ y < x := by
  by_cases h1 : y < x
  · rw [if_pos h1]; exact ⟨fun _ => h1, fun _ => by decide⟩
  · rw [if_neg h1]
    by_cases h2 : x = y
    · rw [if_pos h2]; exact ⟨fun h => absurd h (by decide), fun h => by omega⟩
    · rw [if_neg h2]; exact ⟨fun h => absurd h (by decide), fun h => by omega⟩
theorem vl_lc_ge {x y : Int} : (0 ≤ (if y < x then (1 : Int32) else if x = y then 0 else -1)) ↔ ¬ x < y := by
  by_cases h1 : y < x
  · rw [if_pos h1]; exact ⟨fun _ => by omega, fun _ => by decide⟩
  · rw [if_neg h1]
    by_cases h2 : x = y
    · rw [if_pos h2]; exact ⟨fun _ => by omega, fun _ => by decide⟩
    · rw [if_neg h2]; exact ⟨fun h => absurd h (by decide), fun h => by omega⟩
theorem vl_lc_le {x y : Int} : ((if y < x then (1 : Int32) else if x = y then 0 else -1) ≤ 0) ↔ ¬ y < x := by
  by_cases h1 : y < x
  · rw [if_pos h1]; exact ⟨fun h => absurd h (by decide), fun h => absurd h1 h⟩
  · rw [if_neg h1]
    by_cases h2 : x = y
    · rw [if_pos h2]; exact ⟨fun _ => h1, fun _ => by decide⟩
    · rw [if_neg h2]; exact ⟨fun _ => h1, fun _ => by decide⟩
theorem vl_lif_eq {α : Type} {P : α → Prop} {A B : Option α} {x y : Int} {off : Int} {tgt : Nat} (hd0 : decode K.2.1 pc = .ok (.lcmp, 1)) (hd : decode K.2.1 (pc + 1) = .ok (.ifCond .eq off, 3)) (ht : ((pc + 1 : Nat) : Int) + off = (tgt : Int)) (hx : vl_r64 x) (hy : vl_r64 y) (hE : vl_ok P (if x = y then A else B)) (kt : x = y → vl_ok P A → vl_V nc S sc K d Post tgt lv st μ ρ) (kf : ¬ (x = y) → vl_ok P B → vl_V nc S sc K d Post (pc + 4) lv st μ ρ) : vl_V nc S sc K d Post pc lv (vl_jv y :: vl_jv x :: st) μ ρ :=
  fun p l e R s m args below meth c H locs cells slots Q D cA ad A_1 ls hC hcs hR hl hret => W.lcmp hC.1 hC.2.1 hd0 (by
    have hcmp := vl_lcmp hx hy
    refine lv_if_eq hC.1 hC.2.1 hd ht (fun q => ?_) (fun q => ?_)
    · have z : x = y := by rw [hcmp] at q; exact vl_lc_eq.mp q
      refine kt z ?_ p l e R s m args below meth c H locs cells slots Q D cA ad A_1 ls hC hcs hR hl hret
      rw [if_pos z] at hE; exact hE
    · have z : ¬ (x = y) := by rw [hcmp] at q; exact (fun r z => r (vl_lc_eq.mpr z)) q
      refine kf z ?_ p l e R s m args below meth c H locs cells slots Q D cA ad A_1 ls hC hcs hR hl hret
      rw [if_neg z] at hE; exact hE)
theorem vl_lif_ne {α : Type} {P : α → Prop} {A B : Option α} {x y : Int} {off : Int} {tgt : Nat} (hd0 : decode K.2.1 pc = .ok (.lcmp, 1)) (hd : decode K.2.1 (pc + 1) = .ok (.ifCond .ne off, 3)) (ht : ((pc + 1 : Nat) : Int) + off = (tgt : Int)) (hx : vl_r64 x) (hy : vl_r64 y) (hE : vl_ok P (if x = y then A else B)) (kt : ¬ (x = y) → vl_ok P B → vl_V nc S sc K d Post tgt lv st μ ρ) (kf : x = y → vl_ok P A → vl_V nc S sc K d Post (pc + 4) lv st μ ρ) : vl_V nc S sc K d Post pc lv (vl_jv y :: vl_jv x :: st) μ ρ :=
  fun p l e R s m args below meth c H locs cells slots Q D cA ad A_1 ls hC hcs hR hl hret => W.lcmp hC.1 hC.2.1 hd0 (by
    have hcmp := vl_lcmp hx hy
    refine lv_if_ne hC.1 hC.2.1 hd ht (fun q => ?_) (fun q => ?_)
    · have z : ¬ (x = y) := by rw [hcmp] at q; exact (fun r z => r (vl_lc_eq.mpr z)) q
      refine kt z ?_ p l e R s m args below meth c H locs cells slots Q D cA ad A_1 ls hC hcs hR hl hret
      rw [if_neg z] at hE; exact hE
    · have z : x = y := by rw [hcmp] at q; exact vl_lc_eq.mp q
      refine kf z ?_ p l e R s m args below meth c H locs cells slots Q D cA ad A_1 ls hC hcs hR hl hret
      rw [if_pos z] at hE; exact hE)
theorem vl_lif_lt {α : Type} {P : α → Prop} {A B : Option α} {x y : Int} {off : Int} {tgt : Nat} (hd0 : decode K.2.1 pc = .ok (.lcmp, 1)) (hd : decode K.2.1 (pc + 1) = .ok (.ifCond .lt off, 3)) (ht : ((pc + 1 : Nat) : Int) + off = (tgt : Int)) (hx : vl_r64 x) (hy : vl_r64 y) (hE : vl_ok P (if x < y then A else B)) (kt : x < y → vl_ok P A → vl_V nc S sc K d Post tgt lv st μ ρ) (kf : ¬ (x < y) → vl_ok P B → vl_V nc S sc K d Post (pc + 4) lv st μ ρ) : vl_V nc S sc K d Post pc lv (vl_jv y :: vl_jv x :: st) μ ρ :=
  fun p l e R s m args below meth c H locs cells slots Q D cA ad A_1 ls hC hcs hR hl hret => W.lcmp hC.1 hC.2.1 hd0 (by
    have hcmp := vl_lcmp hx hy
    refine lv_if_lt hC.1 hC.2.1 hd ht (fun q => ?_) (fun q => ?_)
    · have z : x < y := by rw [hcmp] at q; exact vl_lc_lt.mp q
      refine kt z ?_ p l e R s m args below meth c H locs cells slots Q D cA ad A_1 ls hC hcs hR hl hret
      rw [if_pos z] at hE; exact hE
    · have z : ¬ (x < y) := by rw [hcmp] at q; exact (fun r z => r (vl_lc_lt.mpr z)) q
      refine kf z ?_ p l e R s m args below meth c H locs cells slots Q D cA ad A_1 ls hC hcs hR hl hret
      rw [if_neg z] at hE; exact hE)
theorem vl_lif_ge {α : Type} {P : α → Prop} {A B : Option α} {x y : Int} {off : Int} {tgt : Nat} (hd0 : decode K.2.1 pc = .ok (.lcmp, 1)) (hd : decode K.2.1 (pc + 1) = .ok (.ifCond .ge off, 3)) (ht : ((pc + 1 : Nat) : Int) + off = (tgt : Int)) (hx : vl_r64 x) (hy : vl_r64 y) (hE : vl_ok P (if x < y then A else B)) (kt : ¬ (x < y) → vl_ok P B → vl_V nc S sc K d Post tgt lv st μ ρ) (kf : x < y → vl_ok P A → vl_V nc S sc K d Post (pc + 4) lv st μ ρ) : vl_V nc S sc K d Post pc lv (vl_jv y :: vl_jv x :: st) μ ρ :=
  fun p l e R s m args below meth c H locs cells slots Q D cA ad A_1 ls hC hcs hR hl hret => W.lcmp hC.1 hC.2.1 hd0 (by
    have hcmp := vl_lcmp hx hy
    refine lv_if_ge hC.1 hC.2.1 hd ht (fun q => ?_) (fun q => ?_)
    · have z : ¬ (x < y) := by rw [hcmp] at q; exact vl_lc_ge.mp q
      refine kt z ?_ p l e R s m args below meth c H locs cells slots Q D cA ad A_1 ls hC hcs hR hl hret
      rw [if_neg z] at hE; exact hE
    · have z : x < y := by rw [hcmp] at q; exact (fun r => Int.not_le.mp (fun z => r (vl_lc_ge.mpr (Int.not_lt.mpr z)))) q
      refine kf z ?_ p l e R s m args below meth c H locs cells slots Q D cA ad A_1 ls hC hcs hR hl hret
      rw [if_pos z] at hE; exact hE)
theorem vl_lif_gt {α : Type} {P : α → Prop} {A B : Option α} {x y : Int} {off : Int} {tgt : Nat} (hd0 : decode K.2.1 pc = .ok (.lcmp, 1)) (hd : decode K.2.1 (pc + 1) = .ok (.ifCond .gt off, 3)) (ht : ((pc + 1 : Nat) : Int) + off = (tgt : Int)) (hx : vl_r64 x) (hy : vl_r64 y) (hE : vl_ok P (if y < x then A else B)) (kt : y < x → vl_ok P A → vl_V nc S sc K d Post tgt lv st μ ρ) (kf : ¬ (y < x) → vl_ok P B → vl_V nc S sc K d Post (pc + 4) lv st μ ρ) : vl_V nc S sc K d Post pc lv (vl_jv y :: vl_jv x :: st) μ ρ :=
  fun p l e R s m args below meth c H locs cells slots Q D cA ad A_1 ls hC hcs hR hl hret => W.lcmp hC.1 hC.2.1 hd0 (by
    have hcmp := vl_lcmp hx hy
    refine lv_if_gt hC.1 hC.2.1 hd ht (fun q => ?_) (fun q => ?_)
    · have z : y < x := by rw [hcmp] at q; exact vl_lc_gt.mp q
      refine kt z ?_ p l e R s m args below meth c H locs cells slots Q D cA ad A_1 ls hC hcs hR hl hret
      rw [if_pos z] at hE; exact hE
    · have z : ¬ (y < x) := by rw [hcmp] at q; exact (fun r z => r (vl_lc_gt.mpr z)) q
      refine kf z ?_ p l e R s m args below meth c H locs cells slots Q D cA ad A_1 ls hC hcs hR hl hret
      rw [if_neg z] at hE; exact hE)
theorem vl_lif_le {α : Type} {P : α → Prop} {A B : Option α} {x y : Int} {off : Int} {tgt : Nat} (hd0 : decode K.2.1 pc = .ok (.lcmp, 1)) (hd : decode K.2.1 (pc + 1) = .ok (.ifCond .le off, 3)) (ht : ((pc + 1 : Nat) : Int) + off = (tgt : Int)) (hx : vl_r64 x) (hy : vl_r64 y) (hE : vl_ok P (if y < x then A else B)) (kt : ¬ (y < x) → vl_ok P B → vl_V nc S sc K d Post tgt lv st μ ρ) (kf : y < x → vl_ok P A → vl_V nc S sc K d Post (pc + 4) lv st μ ρ) : vl_V nc S sc K d Post pc lv (vl_jv y :: vl_jv x :: st) μ ρ :=
  fun p l e R s m args below meth c H locs cells slots Q D cA ad A_1 ls hC hcs hR hl hret => W.lcmp hC.1 hC.2.1 hd0 (by
    have hcmp := vl_lcmp hx hy
    refine lv_if_le hC.1 hC.2.1 hd ht (fun q => ?_) (fun q => ?_)
    · have z : ¬ (y < x) := by rw [hcmp] at q; exact vl_lc_le.mp q
      refine kt z ?_ p l e R s m args below meth c H locs cells slots Q D cA ad A_1 ls hC hcs hR hl hret
      rw [if_neg z] at hE; exact hE
    · have z : y < x := by rw [hcmp] at q; exact (fun r => Int.not_le.mp (fun z => r (vl_lc_le.mpr (Int.not_lt.mpr z)))) q
      refine kf z ?_ p l e R s m args below meth c H locs cells slots Q D cA ad A_1 ls hC hcs hR hl hret
      rw [if_pos z] at hE; exact hE)
/-- a table of places to go to -/
theorem vl_tabOut {dflt lo hi : Int} {offs : Array Int} {len : Nat} {x : Int} {tgt : Nat} (hd : decode K.2.1 pc = .ok (.tableswitch dflt lo hi offs, len)) (hx : vl_r32 x) (h : x < lo ∨ hi < x) (ht : (pc : Int) + dflt = (tgt : Int)) (k : vl_V nc S sc K d Post tgt lv st μ ρ) : vl_V nc S sc K d Post pc lv (vl_iv x :: st) μ ρ :=
  vl_go (fun p l e R s m args below meth c H locs cells slots Q ad ls hC hl w => lv_tableOut hC.1 hC.2.1 hd (by rw [vl_r32_toInt hx]; exact h) ht w) k
theorem vl_tabIn {dflt lo hi : Int} {offs : Array Int} {len : Nat} {x off : Int} {tgt : Nat} (hd : decode K.2.1 pc = .ok (.tableswitch dflt lo hi offs, len)) (hx : vl_r32 x) (h1 : ¬ x < lo) (h2 : ¬ hi < x) (ho : offs[(x - lo).toNat]? = some off) (ht : (pc : Int) + off = (tgt : Int)) (k : vl_V nc S sc K d Post tgt lv st μ ρ) : vl_V nc S sc K d Post pc lv (vl_iv x :: st) μ ρ :=
  vl_go (fun p l e R s m args below meth c H locs cells slots Q ad ls hC hl w => lv_tableIn hC.1 hC.2.1 hd (by rw [vl_r32_toInt hx]; exact h1) (by rw [vl_r32_toInt hx]; exact h2) (by rw [vl_r32_toInt hx]; exact ho) ht w) k
/-- constants of the pool -/
theorem vl_ldc {index : Nat} {x : Int} (hc : Cond.constant K.1.cls index (Int32.ofInt x) ∈ vl_tbl) (hd : decode K.2.1 pc = .ok (.ldc index, 2)) (k : vl_V nc S sc K d Post (pc + 2) lv (vl_iv x :: st) μ ρ) : vl_V nc S sc K d Post pc lv st μ ρ :=
  vl_go (fun p l e R s m args below meth c H locs cells slots Q ad ls hC hl w => lv_ldc hC.1 hC.2.1 hC.2.2.2.1 (hC.2.2.2.2.1 _ hc) hd w) k
theorem vl_ldc2 {index : Nat} {x : Int} (hc : Cond.constantLong K.1.cls index (Int64.ofInt x) ∈ vl_tbl) (hd : decode K.2.1 pc = .ok (.ldc2_w index, 3)) (k : vl_V nc S sc K d Post (pc + 3) lv (vl_jv x :: st) μ ρ) : vl_V nc S sc K d Post pc lv st μ ρ :=
  vl_go (fun p l e R s m args below meth c H locs cells slots Q ad ls hC hl w => lv_ldc2 hC.1 hC.2.1 hC.2.2.2.1 (hC.2.2.2.2.1 _ hc) hd w) k
/-- the steps of the sort -/
theorem vl_gaps {index : Nat} (hlink : Cond.fieldLink K.1.cls index "AreaTree$Packer" "GAPS" "[I" ∈ vl_tbl) (hd : decode K.2.1 pc = .ok (.getstatic index, 3)) (k : vl_V nc S sc K d Post (pc + 3) lv (.ref 100 :: st) μ ρ) : vl_V nc S sc K d Post pc lv st μ ρ :=
  fun p l e R s m args below meth c H locs cells slots Q D cA ad A ls hC hcs hR hl hret => va_gets hC.1 hC.2.1 hR.2.2.2.2.2.2.2.1 hR.2.2.2.1 hC.2.2.2.1 (hC.2.2.2.2.1 _ hlink) (fun _ h => h) hd (k p l e R s m args below meth c H locs cells slots Q D cA ad A ls hC hcs hR hl hret)
theorem vl_gapsLen (hd : decode K.2.1 pc = .ok (.arraylength, 1)) (k : vl_V nc S sc K d Post (pc + 1) lv (vl_iv 5 :: st) μ ρ) : vl_V nc S sc K d Post pc lv (.ref 100 :: st) μ ρ :=
  fun p l e R s m args below meth c H locs cells slots Q D cA ad A ls hC hcs hR hl hret => va_tlen hC.1 hC.2.1 hR.2.2.2.2.2.2.2.2 hR.2.2.2.1 rfl hd (k p l e R s m args below meth c H locs cells slots Q D cA ad A ls hC hcs hR hl hret)
def vl_gap (i : Int) : Int := if i = 0 then 121 else if i = 1 then 40 else if i = 2 then 13 else if i = 3 then 4 else 1
theorem vl_gapsLd {α : Type} {P : α → Prop} {E : Option α} {i : Int} (hd : decode K.2.1 pc = .ok (.iaload, 1)) (hE : vl_ok P (vl_gd (0 ≤ i ∧ i < 5) E)) (k : (0 ≤ i ∧ i < 5) → vl_r32 i → vl_ok P E → vl_V nc S sc K d Post (pc + 1) lv (vl_iv (vl_gap i) :: st) μ ρ) : vl_V nc S sc K d Post pc lv (vl_iv i :: .ref 100 :: st) μ ρ :=
  fun p l e R s m args below meth c H locs cells slots Q D cA ad A ls hC hcs hR hl hret => by
    obtain ⟨q1, q2⟩ := vl_ok_gd hE
    have hr : vl_r32 i := ⟨by omega, by omega⟩
    obtain ⟨h1, h2⟩ := vl_inn (n := 5) hr q1
    refine va_ti hC.1 hC.2.1 hR.2.2.2.2.2.2.2.2 hR.2.2.2.1 h1 (v := vl_iv (vl_gap i)) ?_ hd (k q1 hr q2 p l e R s m args below meth c H locs cells slots Q D cA ad A ls hC hcs hR hl hret)
    unfold vl_gp vl_iv vl_gap
    generalize (Int32.ofInt i).toNatClampNeg = a at h2
    subst h2
    congr 2
    rcases (by omega : a = 0 ∨ a = 1 ∨ a = 2 ∨ a = 3 ∨ a = 4) with rfl | rfl | rfl | rfl | rfl <;> rfl
/-- the script -/
theorem vl_scLen (hd : decode K.2.1 pc = .ok (.arraylength, 1)) (k : vl_V nc S sc K d Post (pc + 1) lv (vl_iv (sc.1 : Int) :: st) μ ρ) : vl_V nc S sc K d Post pc lv (.ref 101 :: st) μ ρ :=
  fun p l e R s m args below meth c H locs cells slots Q D cA ad A ls hC hcs hR hl hret => va_slen hC.1 hC.2.1 hR.2.2.2.2.1 hR.2.2.2.2.2.1 hR.2.2.2.2.2.2.1 hR.2.2.2.1 hd (by
    rw [← Int32.ofInt_eq_ofNat]
    exact k p l e R s m args below meth c H locs cells slots Q D cA ad A ls hC hcs hR hl hret)
def vl_sc (sc : Nat × (Nat → Int32)) (i : Int) : Int := (sc.2 i.toNat).toInt
theorem vl_scLd {α : Type} {P : α → Prop} {E : Option α} {i : Int} (hL : sc.1 ≤ 2147483648) (hd : decode K.2.1 pc = .ok (.iaload, 1)) (hE : vl_ok P (vl_gd (0 ≤ i ∧ i < (sc.1 : Int)) E)) (k : (0 ≤ i ∧ i < (sc.1 : Int)) → vl_r32 i → vl_ok P E → vl_V nc S sc K d Post (pc + 1) lv (vl_iv (vl_sc sc i) :: st) μ ρ) : vl_V nc S sc K d Post pc lv (vl_iv i :: .ref 101 :: st) μ ρ :=
  fun p l e R s m args below meth c H locs cells slots Q D cA ad A ls hC hcs hR hl hret => by
    obtain ⟨q1, q2⟩ := vl_ok_gd hE
    have hr : vl_r32 i := vl_r32_in q1 hL
    obtain ⟨h1, h2⟩ := vl_inn hr q1
    refine va_sld hC.1 hC.2.1 hR.2.2.2.2.1 hR.2.2.2.2.2.1 hR.2.2.2.2.2.2.1 hR.2.2.2.1 h1 hd ?_
    have := k q1 hr q2 p l e R s m args below meth c H locs cells slots Q D cA ad A ls hC hcs hR hl hret
    have e1 : (Int32.ofInt i).toNatClampNeg = i.toNat := by omega
    rw [e1]
    have e2 : vl_iv (vl_sc sc i) = .int (sc.2 i.toNat) := by unfold vl_iv vl_sc; rw [Int32.ofInt_toInt]
    rw [List.map_cons, e2] at this
    exact this
theorem vl_jnr {α β : Type} {P : α → Prop} {κ : β} {E : β → Option α} {G : Prop} (J : β → Prop) (h1 : J κ) (hE : vl_ok P (vl_jn κ E)) (h2 : ∀ κ, J κ → vl_ok P (E κ) → G) : G := h2 κ h1 hE
end VLC
end
section
theorem zz_last : True := trivial
end
