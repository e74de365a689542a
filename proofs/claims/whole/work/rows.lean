section
-- ===== PART A: goes FIRST, ahead of the names: the tables' words, and 'selects' of the private methods out of them =====
/-- a private method of a class that the tables say can be made, by its rows of tables_1 -/
def lw_okq (q : MethodName × Nat) : Prop := (q.1.cls ≠ "java/lang/invoke/MethodHandle" ∧ q.1.cls ≠ "java/lang/invoke/VarHandle") ∧ Cond.instantiable q.1.cls q.2 ∈ tables_1 ∧ Cond.privateMethod q.1 ∈ tables_1 ∧ Cond.instanceMethod q.1 ∈ tables_1
theorem lw_p0 : lw_okq (⟨"ShoutGroups$History", "stateAt", "(I)LShoutGroups$Library;"⟩, 3) := ⟨⟨by decide +kernel, by decide +kernel⟩, List.mem_of_getElem? (i := 171) (by decide +kernel), List.mem_of_getElem? (i := 283) (by decide +kernel), List.mem_of_getElem? (i := 284) (by decide +kernel)⟩
theorem lw_p1 : lw_okq (⟨"ShoutGroups", "happen", "(IIIIZ)I"⟩, 6) := ⟨⟨by decide +kernel, by decide +kernel⟩, List.mem_of_getElem? (i := 16) (by decide +kernel), List.mem_of_getElem? (i := 322) (by decide +kernel), List.mem_of_getElem? (i := 323) (by decide +kernel)⟩
theorem lw_p2 : lw_okq (⟨"ShoutGroups$Library", "noteUse", "(IZ)V"⟩, 12) := ⟨⟨by decide +kernel, by decide +kernel⟩, List.mem_of_getElem? (i := 24) (by decide +kernel), List.mem_of_getElem? (i := 362) (by decide +kernel), List.mem_of_getElem? (i := 363) (by decide +kernel)⟩
theorem lw_p3 : lw_okq (⟨"ShoutGroups$Library", "callBack", "(II)I"⟩, 12) := ⟨⟨by decide +kernel, by decide +kernel⟩, List.mem_of_getElem? (i := 24) (by decide +kernel), List.mem_of_getElem? (i := 390) (by decide +kernel), List.mem_of_getElem? (i := 391) (by decide +kernel)⟩
theorem lw_p4 : lw_okq (⟨"ShoutGroups$Library", "takeAway", "(II)V"⟩, 12) := ⟨⟨by decide +kernel, by decide +kernel⟩, List.mem_of_getElem? (i := 24) (by decide +kernel), List.mem_of_getElem? (i := 408) (by decide +kernel), List.mem_of_getElem? (i := 409) (by decide +kernel)⟩
theorem lw_p5 : lw_okq (⟨"ShoutGroups$Library", "makeRoom", "(I)V"⟩, 12) := ⟨⟨by decide +kernel, by decide +kernel⟩, List.mem_of_getElem? (i := 24) (by decide +kernel), List.mem_of_getElem? (i := 417) (by decide +kernel), List.mem_of_getElem? (i := 418) (by decide +kernel)⟩
theorem lw_p6 : lw_okq (⟨"ShoutGroups$Library", "copiesInTheWay", "(I)I"⟩, 12) := ⟨⟨by decide +kernel, by decide +kernel⟩, List.mem_of_getElem? (i := 24) (by decide +kernel), List.mem_of_getElem? (i := 421) (by decide +kernel), List.mem_of_getElem? (i := 422) (by decide +kernel)⟩
theorem lw_p7 : lw_okq (⟨"ShoutGroups$Library", "messagesToMakeRoom", "(I)I"⟩, 12) := ⟨⟨by decide +kernel, by decide +kernel⟩, List.mem_of_getElem? (i := 24) (by decide +kernel), List.mem_of_getElem? (i := 534) (by decide +kernel), List.mem_of_getElem? (i := 535) (by decide +kernel)⟩
theorem lw_p8 : lw_okq (⟨"ShoutGroups$Orders", "take", "(I)Z"⟩, 7) := ⟨⟨by decide +kernel, by decide +kernel⟩, List.mem_of_getElem? (i := 208) (by decide +kernel), List.mem_of_getElem? (i := 635) (by decide +kernel), List.mem_of_getElem? (i := 636) (by decide +kernel)⟩
theorem lw_p9 : lw_okq (⟨"ShoutGroups$Orders", "takeKind", "()Z"⟩, 7) := ⟨⟨by decide +kernel, by decide +kernel⟩, List.mem_of_getElem? (i := 208) (by decide +kernel), List.mem_of_getElem? (i := 644) (by decide +kernel), List.mem_of_getElem? (i := 645) (by decide +kernel)⟩
theorem lw_p10 : lw_okq (⟨"ShoutGroups$Orders", "takeReader", "()Z"⟩, 7) := ⟨⟨by decide +kernel, by decide +kernel⟩, List.mem_of_getElem? (i := 208) (by decide +kernel), List.mem_of_getElem? (i := 651) (by decide +kernel), List.mem_of_getElem? (i := 652) (by decide +kernel)⟩
theorem lw_p11 : lw_okq (⟨"ShoutGroups$Orders", "takeNumber", "()Z"⟩, 7) := ⟨⟨by decide +kernel, by decide +kernel⟩, List.mem_of_getElem? (i := 208) (by decide +kernel), List.mem_of_getElem? (i := 655) (by decide +kernel), List.mem_of_getElem? (i := 656) (by decide +kernel)⟩
theorem lw_p12 : lw_okq (⟨"ShoutGroups$Orders", "takeNote", "()Z"⟩, 7) := ⟨⟨by decide +kernel, by decide +kernel⟩, List.mem_of_getElem? (i := 208) (by decide +kernel), List.mem_of_getElem? (i := 662) (by decide +kernel), List.mem_of_getElem? (i := 663) (by decide +kernel)⟩
theorem lw_p13 : lw_okq (⟨"ShoutGroups$Orders", "takeValue", "()Z"⟩, 7) := ⟨⟨by decide +kernel, by decide +kernel⟩, List.mem_of_getElem? (i := 208) (by decide +kernel), List.mem_of_getElem? (i := 666) (by decide +kernel), List.mem_of_getElem? (i := 667) (by decide +kernel)⟩
theorem lw_p14 : lw_okq (⟨"ShoutGroupsModel", "tryRead", "(IIZ)I"⟩, 14) := ⟨⟨by decide +kernel, by decide +kernel⟩, List.mem_of_getElem? (i := 692) (by decide +kernel), List.mem_of_getElem? (i := 746) (by decide +kernel), List.mem_of_getElem? (i := 747) (by decide +kernel)⟩
theorem lw_p15 : lw_okq (⟨"ShoutGroupsModel", "keepIf", "(Z)V"⟩, 14) := ⟨⟨by decide +kernel, by decide +kernel⟩, List.mem_of_getElem? (i := 692) (by decide +kernel), List.mem_of_getElem? (i := 759) (by decide +kernel), List.mem_of_getElem? (i := 760) (by decide +kernel)⟩
def lw_privs_1 : List (MethodName × Nat) := [(⟨"ShoutGroups$History", "stateAt", "(I)LShoutGroups$Library;"⟩, 3), (⟨"ShoutGroups", "happen", "(IIIIZ)I"⟩, 6), (⟨"ShoutGroups$Library", "noteUse", "(IZ)V"⟩, 12), (⟨"ShoutGroups$Library", "callBack", "(II)I"⟩, 12), (⟨"ShoutGroups$Library", "takeAway", "(II)V"⟩, 12), (⟨"ShoutGroups$Library", "makeRoom", "(I)V"⟩, 12), (⟨"ShoutGroups$Library", "copiesInTheWay", "(I)I"⟩, 12), (⟨"ShoutGroups$Library", "messagesToMakeRoom", "(I)I"⟩, 12), (⟨"ShoutGroups$Orders", "take", "(I)Z"⟩, 7), (⟨"ShoutGroups$Orders", "takeKind", "()Z"⟩, 7), (⟨"ShoutGroups$Orders", "takeReader", "()Z"⟩, 7), (⟨"ShoutGroups$Orders", "takeNumber", "()Z"⟩, 7), (⟨"ShoutGroups$Orders", "takeNote", "()Z"⟩, 7), (⟨"ShoutGroups$Orders", "takeValue", "()Z"⟩, 7), (⟨"ShoutGroupsModel", "tryRead", "(IIZ)I"⟩, 14), (⟨"ShoutGroupsModel", "keepIf", "(Z)V"⟩, 14)]
theorem lw_r1 : ∀ q ∈ lw_privs_1, lw_okq q := List.forall_mem_cons.mpr ⟨lw_p0, List.forall_mem_cons.mpr ⟨lw_p1, List.forall_mem_cons.mpr ⟨lw_p2, List.forall_mem_cons.mpr ⟨lw_p3, List.forall_mem_cons.mpr ⟨lw_p4, List.forall_mem_cons.mpr ⟨lw_p5, List.forall_mem_cons.mpr ⟨lw_p6, List.forall_mem_cons.mpr ⟨lw_p7, List.forall_mem_cons.mpr ⟨lw_p8, List.forall_mem_cons.mpr ⟨lw_p9, List.forall_mem_cons.mpr ⟨lw_p10, List.forall_mem_cons.mpr ⟨lw_p11, List.forall_mem_cons.mpr ⟨lw_p12, List.forall_mem_cons.mpr ⟨lw_p13, List.forall_mem_cons.mpr ⟨lw_p14, List.forall_mem_cons.mpr ⟨lw_p15, fun _ h => absurd h List.not_mem_nil⟩⟩⟩⟩⟩⟩⟩⟩⟩⟩⟩⟩⟩⟩⟩⟩
theorem lw_p16 : lw_okq (⟨"ShoutGroupsModel", "keep", "()V"⟩, 14) := ⟨⟨by decide +kernel, by decide +kernel⟩, List.mem_of_getElem? (i := 692) (by decide +kernel), List.mem_of_getElem? (i := 763) (by decide +kernel), List.mem_of_getElem? (i := 764) (by decide +kernel)⟩
theorem lw_p17 : lw_okq (⟨"ShoutGroupsModel", "enter", "(III)V"⟩, 14) := ⟨⟨by decide +kernel, by decide +kernel⟩, List.mem_of_getElem? (i := 692) (by decide +kernel), List.mem_of_getElem? (i := 767) (by decide +kernel), List.mem_of_getElem? (i := 768) (by decide +kernel)⟩
theorem lw_p18 : lw_okq (⟨"ShoutGroupsModel", "reads", "(II)I"⟩, 14) := ⟨⟨by decide +kernel, by decide +kernel⟩, List.mem_of_getElem? (i := 692) (by decide +kernel), List.mem_of_getElem? (i := 771) (by decide +kernel), List.mem_of_getElem? (i := 772) (by decide +kernel)⟩
theorem lw_p19 : lw_okq (⟨"ShoutGroupsModel", "moreR", "(III)V"⟩, 14) := ⟨⟨by decide +kernel, by decide +kernel⟩, List.mem_of_getElem? (i := 692) (by decide +kernel), List.mem_of_getElem? (i := 775) (by decide +kernel), List.mem_of_getElem? (i := 776) (by decide +kernel)⟩
theorem lw_p20 : lw_okq (⟨"ShoutGroupsModel", "placeOf", "(II)I"⟩, 14) := ⟨⟨by decide +kernel, by decide +kernel⟩, List.mem_of_getElem? (i := 692) (by decide +kernel), List.mem_of_getElem? (i := 779) (by decide +kernel), List.mem_of_getElem? (i := 780) (by decide +kernel)⟩
theorem lw_p21 : lw_okq (⟨"ShoutGroupsModel", "ofR", "(II)I"⟩, 14) := ⟨⟨by decide +kernel, by decide +kernel⟩, List.mem_of_getElem? (i := 692) (by decide +kernel), List.mem_of_getElem? (i := 783) (by decide +kernel), List.mem_of_getElem? (i := 784) (by decide +kernel)⟩
theorem lw_p22 : lw_okq (⟨"ShoutGroupsModel", "ofC", "(III)I"⟩, 14) := ⟨⟨by decide +kernel, by decide +kernel⟩, List.mem_of_getElem? (i := 692) (by decide +kernel), List.mem_of_getElem? (i := 787) (by decide +kernel), List.mem_of_getElem? (i := 788) (by decide +kernel)⟩
theorem lw_p23 : lw_okq (⟨"ShoutGroupsModel", "use", "(II)V"⟩, 14) := ⟨⟨by decide +kernel, by decide +kernel⟩, List.mem_of_getElem? (i := 692) (by decide +kernel), List.mem_of_getElem? (i := 791) (by decide +kernel), List.mem_of_getElem? (i := 792) (by decide +kernel)⟩
theorem lw_p24 : lw_okq (⟨"ShoutGroupsModel", "takeOff", "(II)V"⟩, 14) := ⟨⟨by decide +kernel, by decide +kernel⟩, List.mem_of_getElem? (i := 692) (by decide +kernel), List.mem_of_getElem? (i := 795) (by decide +kernel), List.mem_of_getElem? (i := 796) (by decide +kernel)⟩
theorem lw_p25 : lw_okq (⟨"ShoutGroupsModel", "layOn", "(IIII)V"⟩, 14) := ⟨⟨by decide +kernel, by decide +kernel⟩, List.mem_of_getElem? (i := 692) (by decide +kernel), List.mem_of_getElem? (i := 799) (by decide +kernel), List.mem_of_getElem? (i := 800) (by decide +kernel)⟩
theorem lw_p26 : lw_okq (⟨"ShoutGroupsModel", "layC", "(IIII)V"⟩, 14) := ⟨⟨by decide +kernel, by decide +kernel⟩, List.mem_of_getElem? (i := 692) (by decide +kernel), List.mem_of_getElem? (i := 803) (by decide +kernel), List.mem_of_getElem? (i := 804) (by decide +kernel)⟩
theorem lw_p27 : lw_okq (⟨"ShoutGroupsModel", "ofN", "(II)I"⟩, 14) := ⟨⟨by decide +kernel, by decide +kernel⟩, List.mem_of_getElem? (i := 692) (by decide +kernel), List.mem_of_getElem? (i := 807) (by decide +kernel), List.mem_of_getElem? (i := 808) (by decide +kernel)⟩
theorem lw_p28 : lw_okq (⟨"ShoutGroupsModel", "callBackBut", "(II)V"⟩, 14) := ⟨⟨by decide +kernel, by decide +kernel⟩, List.mem_of_getElem? (i := 692) (by decide +kernel), List.mem_of_getElem? (i := 811) (by decide +kernel), List.mem_of_getElem? (i := 812) (by decide +kernel)⟩
theorem lw_p29 : lw_okq (⟨"ShoutGroupsModel", "called", "(I)I"⟩, 14) := ⟨⟨by decide +kernel, by decide +kernel⟩, List.mem_of_getElem? (i := 692) (by decide +kernel), List.mem_of_getElem? (i := 815) (by decide +kernel), List.mem_of_getElem? (i := 816) (by decide +kernel)⟩
theorem lw_p30 : lw_okq (⟨"ShoutGroupsModel", "group", "(I)I"⟩, 14) := ⟨⟨by decide +kernel, by decide +kernel⟩, List.mem_of_getElem? (i := 692) (by decide +kernel), List.mem_of_getElem? (i := 819) (by decide +kernel), List.mem_of_getElem? (i := 820) (by decide +kernel)⟩
theorem lw_p31 : lw_okq (⟨"ShoutGroupsModel", "callBack", "(II)V"⟩, 14) := ⟨⟨by decide +kernel, by decide +kernel⟩, List.mem_of_getElem? (i := 692) (by decide +kernel), List.mem_of_getElem? (i := 826) (by decide +kernel), List.mem_of_getElem? (i := 827) (by decide +kernel)⟩
def lw_privs_2 : List (MethodName × Nat) := [(⟨"ShoutGroupsModel", "keep", "()V"⟩, 14), (⟨"ShoutGroupsModel", "enter", "(III)V"⟩, 14), (⟨"ShoutGroupsModel", "reads", "(II)I"⟩, 14), (⟨"ShoutGroupsModel", "moreR", "(III)V"⟩, 14), (⟨"ShoutGroupsModel", "placeOf", "(II)I"⟩, 14), (⟨"ShoutGroupsModel", "ofR", "(II)I"⟩, 14), (⟨"ShoutGroupsModel", "ofC", "(III)I"⟩, 14), (⟨"ShoutGroupsModel", "use", "(II)V"⟩, 14), (⟨"ShoutGroupsModel", "takeOff", "(II)V"⟩, 14), (⟨"ShoutGroupsModel", "layOn", "(IIII)V"⟩, 14), (⟨"ShoutGroupsModel", "layC", "(IIII)V"⟩, 14), (⟨"ShoutGroupsModel", "ofN", "(II)I"⟩, 14), (⟨"ShoutGroupsModel", "callBackBut", "(II)V"⟩, 14), (⟨"ShoutGroupsModel", "called", "(I)I"⟩, 14), (⟨"ShoutGroupsModel", "group", "(I)I"⟩, 14), (⟨"ShoutGroupsModel", "callBack", "(II)V"⟩, 14)]
theorem lw_r2 : ∀ q ∈ lw_privs_2, lw_okq q := List.forall_mem_cons.mpr ⟨lw_p16, List.forall_mem_cons.mpr ⟨lw_p17, List.forall_mem_cons.mpr ⟨lw_p18, List.forall_mem_cons.mpr ⟨lw_p19, List.forall_mem_cons.mpr ⟨lw_p20, List.forall_mem_cons.mpr ⟨lw_p21, List.forall_mem_cons.mpr ⟨lw_p22, List.forall_mem_cons.mpr ⟨lw_p23, List.forall_mem_cons.mpr ⟨lw_p24, List.forall_mem_cons.mpr ⟨lw_p25, List.forall_mem_cons.mpr ⟨lw_p26, List.forall_mem_cons.mpr ⟨lw_p27, List.forall_mem_cons.mpr ⟨lw_p28, List.forall_mem_cons.mpr ⟨lw_p29, List.forall_mem_cons.mpr ⟨lw_p30, List.forall_mem_cons.mpr ⟨lw_p31, fun _ h => absurd h List.not_mem_nil⟩⟩⟩⟩⟩⟩⟩⟩⟩⟩⟩⟩⟩⟩⟩⟩
theorem lw_p32 : lw_okq (⟨"ShoutGroupsModel", "giveBack", "(II)V"⟩, 14) := ⟨⟨by decide +kernel, by decide +kernel⟩, List.mem_of_getElem? (i := 692) (by decide +kernel), List.mem_of_getElem? (i := 830) (by decide +kernel), List.mem_of_getElem? (i := 831) (by decide +kernel)⟩
theorem lw_p33 : lw_okq (⟨"ShoutGroupsModel", "layN", "(III)V"⟩, 14) := ⟨⟨by decide +kernel, by decide +kernel⟩, List.mem_of_getElem? (i := 692) (by decide +kernel), List.mem_of_getElem? (i := 834) (by decide +kernel), List.mem_of_getElem? (i := 835) (by decide +kernel)⟩
theorem lw_p34 : lw_okq (⟨"ShoutGroupsModel", "layCard", "(III)V"⟩, 14) := ⟨⟨by decide +kernel, by decide +kernel⟩, List.mem_of_getElem? (i := 692) (by decide +kernel), List.mem_of_getElem? (i := 838) (by decide +kernel), List.mem_of_getElem? (i := 839) (by decide +kernel)⟩
theorem lw_p35 : lw_okq (⟨"ShoutGroupsModel", "ask", "(II)V"⟩, 14) := ⟨⟨by decide +kernel, by decide +kernel⟩, List.mem_of_getElem? (i := 692) (by decide +kernel), List.mem_of_getElem? (i := 842) (by decide +kernel), List.mem_of_getElem? (i := 843) (by decide +kernel)⟩
theorem lw_p36 : lw_okq (⟨"ShoutGroupsModel", "makeRoom", "(I)V"⟩, 14) := ⟨⟨by decide +kernel, by decide +kernel⟩, List.mem_of_getElem? (i := 692) (by decide +kernel), List.mem_of_getElem? (i := 846) (by decide +kernel), List.mem_of_getElem? (i := 847) (by decide +kernel)⟩
theorem lw_p37 : lw_okq (⟨"ShoutGroupsModel", "returned", "(II)I"⟩, 14) := ⟨⟨by decide +kernel, by decide +kernel⟩, List.mem_of_getElem? (i := 692) (by decide +kernel), List.mem_of_getElem? (i := 850) (by decide +kernel), List.mem_of_getElem? (i := 851) (by decide +kernel)⟩
theorem lw_p38 : lw_okq (⟨"ShoutGroupsModel", "strike", "(II)V"⟩, 14) := ⟨⟨by decide +kernel, by decide +kernel⟩, List.mem_of_getElem? (i := 692) (by decide +kernel), List.mem_of_getElem? (i := 854) (by decide +kernel), List.mem_of_getElem? (i := 855) (by decide +kernel)⟩
theorem lw_p39 : lw_okq (⟨"ShoutGroupsModel", "writeOn", "(II)V"⟩, 14) := ⟨⟨by decide +kernel, by decide +kernel⟩, List.mem_of_getElem? (i := 692) (by decide +kernel), List.mem_of_getElem? (i := 858) (by decide +kernel), List.mem_of_getElem? (i := 859) (by decide +kernel)⟩
theorem lw_p40 : lw_okq (⟨"ShoutGroupsModel", "groupsOf", "(I)I"⟩, 14) := ⟨⟨by decide +kernel, by decide +kernel⟩, List.mem_of_getElem? (i := 692) (by decide +kernel), List.mem_of_getElem? (i := 865) (by decide +kernel), List.mem_of_getElem? (i := 866) (by decide +kernel)⟩
theorem lw_p41 : lw_okq (⟨"ShoutGroupsModel", "tryChange", "(IIIZ)I"⟩, 14) := ⟨⟨by decide +kernel, by decide +kernel⟩, List.mem_of_getElem? (i := 692) (by decide +kernel), List.mem_of_getElem? (i := 873) (by decide +kernel), List.mem_of_getElem? (i := 874) (by decide +kernel)⟩
theorem lw_p42 : lw_okq (⟨"ShoutGroupsModel", "changes", "(III)I"⟩, 14) := ⟨⟨by decide +kernel, by decide +kernel⟩, List.mem_of_getElem? (i := 692) (by decide +kernel), List.mem_of_getElem? (i := 877) (by decide +kernel), List.mem_of_getElem? (i := 878) (by decide +kernel)⟩
theorem lw_p43 : lw_okq (⟨"ShoutGroupsModel", "tryPutBack", "(IIZ)I"⟩, 14) := ⟨⟨by decide +kernel, by decide +kernel⟩, List.mem_of_getElem? (i := 692) (by decide +kernel), List.mem_of_getElem? (i := 885) (by decide +kernel), List.mem_of_getElem? (i := 886) (by decide +kernel)⟩
theorem lw_p44 : lw_okq (⟨"ShoutGroupsModel", "tryRecall", "(IZ)I"⟩, 14) := ⟨⟨by decide +kernel, by decide +kernel⟩, List.mem_of_getElem? (i := 692) (by decide +kernel), List.mem_of_getElem? (i := 893) (by decide +kernel), List.mem_of_getElem? (i := 894) (by decide +kernel)⟩
theorem lw_p45 : lw_okq (⟨"ShoutGroupsModel", "cardsThat", "(II)I"⟩, 14) := ⟨⟨by decide +kernel, by decide +kernel⟩, List.mem_of_getElem? (i := 692) (by decide +kernel), List.mem_of_getElem? (i := 901) (by decide +kernel), List.mem_of_getElem? (i := 902) (by decide +kernel)⟩
theorem lw_p46 : lw_okq (⟨"ShoutGroupsModel", "holders", "(I)I"⟩, 14) := ⟨⟨by decide +kernel, by decide +kernel⟩, List.mem_of_getElem? (i := 692) (by decide +kernel), List.mem_of_getElem? (i := 909) (by decide +kernel), List.mem_of_getElem? (i := 910) (by decide +kernel)⟩
theorem lw_p47 : lw_okq (⟨"ShoutGroupsModel", "valueNow", "(I)I"⟩, 14) := ⟨⟨by decide +kernel, by decide +kernel⟩, List.mem_of_getElem? (i := 692) (by decide +kernel), List.mem_of_getElem? (i := 913) (by decide +kernel), List.mem_of_getElem? (i := 914) (by decide +kernel)⟩
def lw_privs_3 : List (MethodName × Nat) := [(⟨"ShoutGroupsModel", "giveBack", "(II)V"⟩, 14), (⟨"ShoutGroupsModel", "layN", "(III)V"⟩, 14), (⟨"ShoutGroupsModel", "layCard", "(III)V"⟩, 14), (⟨"ShoutGroupsModel", "ask", "(II)V"⟩, 14), (⟨"ShoutGroupsModel", "makeRoom", "(I)V"⟩, 14), (⟨"ShoutGroupsModel", "returned", "(II)I"⟩, 14), (⟨"ShoutGroupsModel", "strike", "(II)V"⟩, 14), (⟨"ShoutGroupsModel", "writeOn", "(II)V"⟩, 14), (⟨"ShoutGroupsModel", "groupsOf", "(I)I"⟩, 14), (⟨"ShoutGroupsModel", "tryChange", "(IIIZ)I"⟩, 14), (⟨"ShoutGroupsModel", "changes", "(III)I"⟩, 14), (⟨"ShoutGroupsModel", "tryPutBack", "(IIZ)I"⟩, 14), (⟨"ShoutGroupsModel", "tryRecall", "(IZ)I"⟩, 14), (⟨"ShoutGroupsModel", "cardsThat", "(II)I"⟩, 14), (⟨"ShoutGroupsModel", "holders", "(I)I"⟩, 14), (⟨"ShoutGroupsModel", "valueNow", "(I)I"⟩, 14)]
theorem lw_r3 : ∀ q ∈ lw_privs_3, lw_okq q := List.forall_mem_cons.mpr ⟨lw_p32, List.forall_mem_cons.mpr ⟨lw_p33, List.forall_mem_cons.mpr ⟨lw_p34, List.forall_mem_cons.mpr ⟨lw_p35, List.forall_mem_cons.mpr ⟨lw_p36, List.forall_mem_cons.mpr ⟨lw_p37, List.forall_mem_cons.mpr ⟨lw_p38, List.forall_mem_cons.mpr ⟨lw_p39, List.forall_mem_cons.mpr ⟨lw_p40, List.forall_mem_cons.mpr ⟨lw_p41, List.forall_mem_cons.mpr ⟨lw_p42, List.forall_mem_cons.mpr ⟨lw_p43, List.forall_mem_cons.mpr ⟨lw_p44, List.forall_mem_cons.mpr ⟨lw_p45, List.forall_mem_cons.mpr ⟨lw_p46, List.forall_mem_cons.mpr ⟨lw_p47, fun _ h => absurd h List.not_mem_nil⟩⟩⟩⟩⟩⟩⟩⟩⟩⟩⟩⟩⟩⟩⟩⟩
theorem lw_p48 : lw_okq (⟨"ShoutGroupsModel", "callers", "(I)I"⟩, 14) := ⟨⟨by decide +kernel, by decide +kernel⟩, List.mem_of_getElem? (i := 692) (by decide +kernel), List.mem_of_getElem? (i := 925) (by decide +kernel), List.mem_of_getElem? (i := 926) (by decide +kernel)⟩
theorem lw_p49 : lw_okq (⟨"ShoutGroupsModel", "copies", "(Z)I"⟩, 14) := ⟨⟨by decide +kernel, by decide +kernel⟩, List.mem_of_getElem? (i := 692) (by decide +kernel), List.mem_of_getElem? (i := 933) (by decide +kernel), List.mem_of_getElem? (i := 934) (by decide +kernel)⟩
theorem lw_p50 : lw_okq (⟨"ShoutGroupsModel", "layAside", "()V"⟩, 14) := ⟨⟨by decide +kernel, by decide +kernel⟩, List.mem_of_getElem? (i := 692) (by decide +kernel), List.mem_of_getElem? (i := 941) (by decide +kernel), List.mem_of_getElem? (i := 942) (by decide +kernel)⟩
theorem lw_p51 : lw_okq (⟨"ShoutGroupsModel", "layBack", "()V"⟩, 14) := ⟨⟨by decide +kernel, by decide +kernel⟩, List.mem_of_getElem? (i := 692) (by decide +kernel), List.mem_of_getElem? (i := 945) (by decide +kernel), List.mem_of_getElem? (i := 946) (by decide +kernel)⟩
theorem lw_p52 : lw_okq (⟨"ShoutGroupsModel", "cost", "(III)I"⟩, 14) := ⟨⟨by decide +kernel, by decide +kernel⟩, List.mem_of_getElem? (i := 692) (by decide +kernel), List.mem_of_getElem? (i := 953) (by decide +kernel), List.mem_of_getElem? (i := 954) (by decide +kernel)⟩
theorem lw_p53 : lw_okq (⟨"ShoutGroupsModel", "fewestWasted", "(I)I"⟩, 14) := ⟨⟨by decide +kernel, by decide +kernel⟩, List.mem_of_getElem? (i := 692) (by decide +kernel), List.mem_of_getElem? (i := 965) (by decide +kernel), List.mem_of_getElem? (i := 966) (by decide +kernel)⟩
theorem lw_p54 : lw_okq (⟨"ShoutGroupsModel", "messagesWith", "(II)I"⟩, 14) := ⟨⟨by decide +kernel, by decide +kernel⟩, List.mem_of_getElem? (i := 692) (by decide +kernel), List.mem_of_getElem? (i := 973) (by decide +kernel), List.mem_of_getElem? (i := 974) (by decide +kernel)⟩
theorem lw_p55 : lw_okq (⟨"ShoutGroupsModel", "takeOrder", "()V"⟩, 14) := ⟨⟨by decide +kernel, by decide +kernel⟩, List.mem_of_getElem? (i := 692) (by decide +kernel), List.mem_of_getElem? (i := 998) (by decide +kernel), List.mem_of_getElem? (i := 999) (by decide +kernel)⟩
theorem lw_p56 : lw_okq (⟨"ShoutGroupsModel", "next", "()I"⟩, 14) := ⟨⟨by decide +kernel, by decide +kernel⟩, List.mem_of_getElem? (i := 692) (by decide +kernel), List.mem_of_getElem? (i := 1002) (by decide +kernel), List.mem_of_getElem? (i := 1003) (by decide +kernel)⟩
theorem lw_p57 : lw_okq (⟨"ShoutGroupsModel", "takeNumber", "(I)V"⟩, 14) := ⟨⟨by decide +kernel, by decide +kernel⟩, List.mem_of_getElem? (i := 692) (by decide +kernel), List.mem_of_getElem? (i := 1006) (by decide +kernel), List.mem_of_getElem? (i := 1007) (by decide +kernel)⟩
theorem lw_p58 : lw_okq (⟨"ShoutGroupsModel", "takeSign", "(I)V"⟩, 14) := ⟨⟨by decide +kernel, by decide +kernel⟩, List.mem_of_getElem? (i := 692) (by decide +kernel), List.mem_of_getElem? (i := 1010) (by decide +kernel), List.mem_of_getElem? (i := 1011) (by decide +kernel)⟩
theorem lw_p59 : lw_okq (⟨"ShoutGroupsModel", "carry", "(I)I"⟩, 14) := ⟨⟨by decide +kernel, by decide +kernel⟩, List.mem_of_getElem? (i := 692) (by decide +kernel), List.mem_of_getElem? (i := 1019) (by decide +kernel), List.mem_of_getElem? (i := 1020) (by decide +kernel)⟩
def lw_privs_4 : List (MethodName × Nat) := [(⟨"ShoutGroupsModel", "callers", "(I)I"⟩, 14), (⟨"ShoutGroupsModel", "copies", "(Z)I"⟩, 14), (⟨"ShoutGroupsModel", "layAside", "()V"⟩, 14), (⟨"ShoutGroupsModel", "layBack", "()V"⟩, 14), (⟨"ShoutGroupsModel", "cost", "(III)I"⟩, 14), (⟨"ShoutGroupsModel", "fewestWasted", "(I)I"⟩, 14), (⟨"ShoutGroupsModel", "messagesWith", "(II)I"⟩, 14), (⟨"ShoutGroupsModel", "takeOrder", "()V"⟩, 14), (⟨"ShoutGroupsModel", "next", "()I"⟩, 14), (⟨"ShoutGroupsModel", "takeNumber", "(I)V"⟩, 14), (⟨"ShoutGroupsModel", "takeSign", "(I)V"⟩, 14), (⟨"ShoutGroupsModel", "carry", "(I)I"⟩, 14)]
theorem lw_r4 : ∀ q ∈ lw_privs_4, lw_okq q := List.forall_mem_cons.mpr ⟨lw_p48, List.forall_mem_cons.mpr ⟨lw_p49, List.forall_mem_cons.mpr ⟨lw_p50, List.forall_mem_cons.mpr ⟨lw_p51, List.forall_mem_cons.mpr ⟨lw_p52, List.forall_mem_cons.mpr ⟨lw_p53, List.forall_mem_cons.mpr ⟨lw_p54, List.forall_mem_cons.mpr ⟨lw_p55, List.forall_mem_cons.mpr ⟨lw_p56, List.forall_mem_cons.mpr ⟨lw_p57, List.forall_mem_cons.mpr ⟨lw_p58, List.forall_mem_cons.mpr ⟨lw_p59, fun _ h => absurd h List.not_mem_nil⟩⟩⟩⟩⟩⟩⟩⟩⟩⟩⟩⟩
def lw_privs : List (MethodName × Nat) := lw_privs_1 ++ (lw_privs_2 ++ (lw_privs_3 ++ (lw_privs_4)))
def lw_tbl : List Cond := k2_sels lw_privs ++ tables_1
theorem lw_privs_ok : ∀ q ∈ lw_privs, lw_okq q := by
  show ∀ q ∈ lw_privs_1 ++ (lw_privs_2 ++ (lw_privs_3 ++ (lw_privs_4))), lw_okq q
  exact List.forall_mem_append.mpr ⟨lw_r1, List.forall_mem_append.mpr ⟨lw_r2, List.forall_mem_append.mpr ⟨lw_r3, lw_r4⟩⟩⟩
-- ===== end of PART A; then your names; then what follows =====
end
section
theorem goodIn_r {big : List Cond} (ws : List Cond) (ps : List Nat) (hp : ws = ps.filterMap (fun i => big[i]?)) (h : ws.all goodWord = true) : GoodIn big ws := by
  intro w hw
  have h1 := List.all_eq_true.mp h w hw
  rw [hp] at hw
  obtain ⟨i, -, hi⟩ := List.mem_filterMap.mp hw
  have hm : w ∈ big := by first | exact List.mem_of_getElem? hi | exact List.getElem?_mem hi
  exact ⟨hm, good_of_word h1⟩
theorem goodIn_app {big a b : List Cond} (ha : GoodIn big a) (hb : GoodIn big b) : GoodIn big (a ++ b) := fun w h => (List.mem_append.mp h).elim (ha w) (hb w)
theorem goodIn_ca {big a b : List Cond} {c : Cond} (ha : GoodIn big (c :: a)) (hb : GoodIn big b) : GoodIn big (c :: (a ++ b)) := fun w h => (List.mem_cons.mp h).elim (fun e => ha w (List.mem_cons.mpr (Or.inl e))) (fun h => (List.mem_append.mp h).elim (fun h => ha w (List.mem_cons.mpr (Or.inr h))) (hb w))
theorem goodIn_sub {big ws : List Cond} (hm : ∀ w ∈ ws, w ∈ big) (h : ws.all goodWord = true) : GoodIn big ws := fun w hw => ⟨hm w hw, good_of_word (List.all_eq_true.mp h w hw)⟩
def RX0 : String := "ShoutGroups$Account"
def TX0 : u_T := fun k => match k with
  | 0 => ("ShoutGroups$Account", "kinds", "LShoutGroups$Row;", true)
  | 1 => ("ShoutGroups$Account", "readers", "LShoutGroups$Row;", true)
  | 2 => ("ShoutGroups$Account", "notes", "LShoutGroups$Row;", true)
  | 3 => ("ShoutGroups$Account", "first", "I", false)
  | _ => ("ShoutGroups$Account", "length", "I", false)
def tyX0 : Nat → FieldType := fun k => match k with
  | 0 => .object "ShoutGroups$Row"
  | 1 => .object "ShoutGroups$Row"
  | 2 => .object "ShoutGroups$Row"
  | 3 => .int
  | _ => .int
abbrev wsX00 : List Cond := u_ws RX0 TX0 5
theorem nmX0 : ∀ a, a < 5 → ∀ b, b < 5 → a ≠ b → (TX0 a).2.1 ≠ (TX0 b).2.1 := by decide +kernel
theorem tyX0_ok : ∀ k, k < 5 → parseFieldDescriptor (TX0 k).2.2.1 = some (tyX0 k) := by decide +kernel
abbrev cX0_init : ByteArray := prog_2_method_1_code
def yX0_init : MethodName := ⟨RX0, "<init>", "()V"⟩
abbrev cX0_cellOf : ByteArray := prog_2_method_2_code
def yX0_cellOf : MethodName := ⟨RX0, "cellOf", "(I)I"⟩
abbrev cX0_append : ByteArray := prog_2_method_3_code
def yX0_append : MethodName := ⟨RX0, "append", "(III)V"⟩
abbrev cX0_clear : ByteArray := prog_2_method_4_code
def yX0_clear : MethodName := ⟨RX0, "clear", "()V"⟩
abbrev cX0_copyFrom : ByteArray := prog_2_method_5_code
def yX0_copyFrom : MethodName := ⟨RX0, "copyFrom", "(LShoutGroups$Account;)V"⟩
def RX1 : String := "ShoutGroups$Cards"
def TX1 : u_T := fun k => match k with
  | 0 => ("ShoutGroups$Cards", "kinds", "LShoutGroups$Row;", true)
  | _ => ("ShoutGroups$Cards", "names", "LShoutGroups$Row;", true)
def tyX1 : Nat → FieldType := fun k => match k with
  | 0 => .object "ShoutGroups$Row"
  | _ => .object "ShoutGroups$Row"
abbrev wsX10 : List Cond := u_ws RX1 TX1 2
theorem nmX1 : ∀ a, a < 2 → ∀ b, b < 2 → a ≠ b → (TX1 a).2.1 ≠ (TX1 b).2.1 := by decide +kernel
theorem tyX1_ok : ∀ k, k < 2 → parseFieldDescriptor (TX1 k).2.2.1 = some (tyX1 k) := by decide +kernel
abbrev cX1_init : ByteArray := prog_3_method_1_code
def yX1_init : MethodName := ⟨RX1, "<init>", "()V"⟩
abbrev cX1_isOwnedBy : ByteArray := prog_3_method_2_code
def yX1_isOwnedBy : MethodName := ⟨RX1, "isOwnedBy", "(II)Z"⟩
abbrev cX1_called : ByteArray := prog_3_method_3_code
def yX1_called : MethodName := ⟨RX1, "called", "(II)I"⟩
abbrev cX1_become : ByteArray := prog_3_method_4_code
def yX1_become : MethodName := ⟨RX1, "become", "(III)V"⟩
abbrev cX1_name : ByteArray := prog_3_method_5_code
def yX1_name : MethodName := ⟨RX1, "name", "(IIII)V"⟩
abbrev cX1_strike : ByteArray := prog_3_method_6_code
def yX1_strike : MethodName := ⟨RX1, "strike", "(II)V"⟩
abbrev cX1_howManyInUse : ByteArray := prog_3_method_7_code
def yX1_howManyInUse : MethodName := ⟨RX1, "howManyInUse", "()I"⟩
abbrev cX1_howManyGrouped : ByteArray := prog_3_method_8_code
def yX1_howManyGrouped : MethodName := ⟨RX1, "howManyGrouped", "()I"⟩
abbrev cX1_clear : ByteArray := prog_3_method_9_code
def yX1_clear : MethodName := ⟨RX1, "clear", "()V"⟩
abbrev cX1_copyFrom : ByteArray := prog_3_method_10_code
def yX1_copyFrom : MethodName := ⟨RX1, "copyFrom", "(LShoutGroups$Cards;)V"⟩
abbrev cX1_groupsOf : ByteArray := prog_3_method_11_code
def yX1_groupsOf : MethodName := ⟨RX1, "groupsOf", "(II)I"⟩
def RX2 : String := "ShoutGroups$History"
def TX2 : u_T := fun k => match k with
  | 0 => ("ShoutGroups$History", "states", "[LShoutGroups$Library;", true)
  | 1 => ("ShoutGroups$History", "first", "I", false)
  | _ => ("ShoutGroups$History", "length", "I", false)
def tyX2 : Nat → FieldType := fun k => match k with
  | 0 => .array (.object "ShoutGroups$Library")
  | 1 => .int
  | _ => .int
abbrev wsX20 : List Cond := u_ws RX2 TX2 3
theorem nmX2 : ∀ a, a < 3 → ∀ b, b < 3 → a ≠ b → (TX2 a).2.1 ≠ (TX2 b).2.1 := by decide +kernel
theorem tyX2_ok : ∀ k, k < 3 → parseFieldDescriptor (TX2 k).2.2.1 = some (tyX2 k) := by decide +kernel
abbrev cX2_init : ByteArray := prog_4_method_1_code
def yX2_init : MethodName := ⟨RX2, "<init>", "()V"⟩
abbrev cX2_keep : ByteArray := prog_4_method_2_code
def yX2_keep : MethodName := ⟨RX2, "keep", "(LShoutGroups$Library;)V"⟩
abbrev cX2_takeBack : ByteArray := prog_4_method_3_code
def yX2_takeBack : MethodName := ⟨RX2, "takeBack", "(LShoutGroups$Library;)Z"⟩
abbrev cX2_stateAt : ByteArray := prog_4_method_4_code
def yX2_stateAt : MethodName := ⟨RX2, "stateAt", "(I)LShoutGroups$Library;"⟩
def RX3 : String := "ShoutGroups$Library"
def TX3 : u_T := fun k => match k with
  | 0 => ("ShoutGroups$Library", "settings", "LShoutGroups$Row;", true)
  | 1 => ("ShoutGroups$Library", "values", "LShoutGroups$Row;", true)
  | 2 => ("ShoutGroups$Library", "cards", "LShoutGroups$Cards;", true)
  | 3 => ("ShoutGroups$Library", "shelves", "LShoutGroups$Shelves;", true)
  | 4 => ("ShoutGroups$Library", "account", "LShoutGroups$Account;", true)
  | 5 => ("ShoutGroups$Library", "totals", "LShoutGroups$Row;", true)
  | 6 => ("ShoutGroups$Library", "noteCalledBack", "LShoutGroups$Row;", true)
  | 7 => ("ShoutGroups$Library", "noteShouts", "LShoutGroups$Row;", true)
  | 8 => ("ShoutGroups$Library", "readerUses", "LShoutGroups$Row;", true)
  | 9 => ("ShoutGroups$Library", "readerQuietUses", "LShoutGroups$Row;", true)
  | 10 => ("ShoutGroups$Library", "readerCalledBack", "LShoutGroups$Row;", true)
  | _ => ("ShoutGroups$Library", "readerWasted", "LShoutGroups$Row;", true)
def tyX3 : Nat → FieldType := fun k => match k with
  | 0 => .object "ShoutGroups$Row"
  | 1 => .object "ShoutGroups$Row"
  | 2 => .object "ShoutGroups$Cards"
  | 3 => .object "ShoutGroups$Shelves"
  | 4 => .object "ShoutGroups$Account"
  | 5 => .object "ShoutGroups$Row"
  | 6 => .object "ShoutGroups$Row"
  | 7 => .object "ShoutGroups$Row"
  | 8 => .object "ShoutGroups$Row"
  | 9 => .object "ShoutGroups$Row"
  | 10 => .object "ShoutGroups$Row"
  | _ => .object "ShoutGroups$Row"
abbrev wsX30 : List Cond := u_ws RX3 TX3 12
theorem nmX3 : ∀ a, a < 12 → ∀ b, b < 12 → a ≠ b → (TX3 a).2.1 ≠ (TX3 b).2.1 := by decide +kernel
theorem tyX3_ok : ∀ k, k < 12 → parseFieldDescriptor (TX3 k).2.2.1 = some (tyX3 k) := by decide +kernel
abbrev cX3_init : ByteArray := prog_5_method_1_code
def yX3_init : MethodName := ⟨RX3, "<init>", "()V"⟩
abbrev cX3_copyFrom : ByteArray := prog_5_method_2_code
def yX3_copyFrom : MethodName := ⟨RX3, "copyFrom", "(LShoutGroups$Library;)V"⟩
abbrev cX3_errorOf : ByteArray := prog_5_method_3_code
def yX3_errorOf : MethodName := ⟨RX3, "errorOf", "(IIII)I"⟩
abbrev cX3_lend : ByteArray := prog_5_method_4_code
def yX3_lend : MethodName := ⟨RX3, "lend", "(II)I"⟩
abbrev cX3_rewrite : ByteArray := prog_5_method_5_code
def yX3_rewrite : MethodName := ⟨RX3, "rewrite", "(III)I"⟩
abbrev cX3_callIn : ByteArray := prog_5_method_6_code
def yX3_callIn : MethodName := ⟨RX3, "callIn", "(I)I"⟩
abbrev cX3_giveBack : ByteArray := prog_5_method_7_code
def yX3_giveBack : MethodName := ⟨RX3, "giveBack", "(II)I"⟩
abbrev cX3_callBack : ByteArray := prog_5_method_8_code
def yX3_callBack : MethodName := ⟨RX3, "callBack", "(II)I"⟩
abbrev cX3_takeAway : ByteArray := prog_5_method_9_code
def yX3_takeAway : MethodName := ⟨RX3, "takeAway", "(II)V"⟩
abbrev cX3_makeRoom : ByteArray := prog_5_method_10_code
def yX3_makeRoom : MethodName := ⟨RX3, "makeRoom", "(I)V"⟩
abbrev cX3_copiesInTheWay : ByteArray := prog_5_method_11_code
def yX3_copiesInTheWay : MethodName := ⟨RX3, "copiesInTheWay", "(I)I"⟩
abbrev cX3_noteUse : ByteArray := prog_5_method_12_code
def yX3_noteUse : MethodName := ⟨RX3, "noteUse", "(IZ)V"⟩
abbrev cX3_called : ByteArray := prog_5_method_13_code
def yX3_called : MethodName := ⟨RX3, "called", "(I)I"⟩
abbrev cX3_notesThatCall : ByteArray := prog_5_method_14_code
def yX3_notesThatCall : MethodName := ⟨RX3, "notesThatCall", "(I)I"⟩
abbrev cX3_valueToRead : ByteArray := prog_5_method_15_code
def yX3_valueToRead : MethodName := ⟨RX3, "valueToRead", "(I)I"⟩
abbrev cX3_messagesToRead : ByteArray := prog_5_method_16_code
def yX3_messagesToRead : MethodName := ⟨RX3, "messagesToRead", "(II)I"⟩
abbrev cX3_messagesToChange : ByteArray := prog_5_method_17_code
def yX3_messagesToChange : MethodName := ⟨RX3, "messagesToChange", "(II)I"⟩
abbrev cX3_wastedToChange : ByteArray := prog_5_method_18_code
def yX3_wastedToChange : MethodName := ⟨RX3, "wastedToChange", "(II)I"⟩
abbrev cX3_fewestWasted : ByteArray := prog_5_method_19_code
def yX3_fewestWasted : MethodName := ⟨RX3, "fewestWasted", "(I)I"⟩
abbrev cX3_messagesToMakeRoom : ByteArray := prog_5_method_20_code
def yX3_messagesToMakeRoom : MethodName := ⟨RX3, "messagesToMakeRoom", "(I)I"⟩
abbrev cX3_messagesOfAccount : ByteArray := prog_5_method_21_code
def yX3_messagesOfAccount : MethodName := ⟨RX3, "messagesOfAccount", "(LShoutGroups$Library;II)I"⟩
def RX4 : String := "ShoutGroups$Orders"
def TX4 : u_T := fun k => match k with
  | 0 => ("ShoutGroups$Orders", "pad", "LShoutGroups$Pad;", true)
  | 1 => ("ShoutGroups$Orders", "place", "I", false)
  | 2 => ("ShoutGroups$Orders", "number", "I", false)
  | 3 => ("ShoutGroups$Orders", "kind", "I", false)
  | 4 => ("ShoutGroups$Orders", "reader", "I", false)
  | 5 => ("ShoutGroups$Orders", "note", "I", false)
  | _ => ("ShoutGroups$Orders", "value", "I", false)
def tyX4 : Nat → FieldType := fun k => match k with
  | 0 => .object "ShoutGroups$Pad"
  | 1 => .int
  | 2 => .int
  | 3 => .int
  | 4 => .int
  | 5 => .int
  | _ => .int
abbrev wsX40 : List Cond := u_ws RX4 TX4 7
theorem nmX4 : ∀ a, a < 7 → ∀ b, b < 7 → a ≠ b → (TX4 a).2.1 ≠ (TX4 b).2.1 := by decide +kernel
theorem tyX4_ok : ∀ k, k < 7 → parseFieldDescriptor (TX4 k).2.2.1 = some (tyX4 k) := by decide +kernel
abbrev cX4_init : ByteArray := prog_6_method_1_code
def yX4_init : MethodName := ⟨RX4, "<init>", "(LShoutGroups$Pad;)V"⟩
abbrev cX4_findFault : ByteArray := prog_6_method_2_code
def yX4_findFault : MethodName := ⟨RX4, "findFault", "()I"⟩
abbrev cX4_takeNext : ByteArray := prog_6_method_3_code
def yX4_takeNext : MethodName := ⟨RX4, "takeNext", "()Z"⟩
abbrev cX4_takeKind : ByteArray := prog_6_method_4_code
def yX4_takeKind : MethodName := ⟨RX4, "takeKind", "()Z"⟩
abbrev cX4_takeReader : ByteArray := prog_6_method_5_code
def yX4_takeReader : MethodName := ⟨RX4, "takeReader", "()Z"⟩
abbrev cX4_takeNote : ByteArray := prog_6_method_6_code
def yX4_takeNote : MethodName := ⟨RX4, "takeNote", "()Z"⟩
abbrev cX4_takeValue : ByteArray := prog_6_method_7_code
def yX4_takeValue : MethodName := ⟨RX4, "takeValue", "()Z"⟩
abbrev cX4_takeNumber : ByteArray := prog_6_method_8_code
def yX4_takeNumber : MethodName := ⟨RX4, "takeNumber", "()Z"⟩
abbrev cX4_take : ByteArray := prog_6_method_9_code
def yX4_take : MethodName := ⟨RX4, "take", "(I)Z"⟩
abbrev cX4_isDigit : ByteArray := prog_6_method_10_code
def yX4_isDigit : MethodName := ⟨RX4, "isDigit", "(I)Z"⟩
abbrev cX4_kindOf : ByteArray := prog_6_method_11_code
def yX4_kindOf : MethodName := ⟨RX4, "kindOf", "(I)I"⟩
def RX5 : String := "ShoutGroups$Pad"
def TX5 : u_T := fun k => match k with
  | 0 => ("ShoutGroups$Pad", "codes", "LShoutGroups$Row;", true)
  | _ => ("ShoutGroups$Pad", "length", "I", false)
def tyX5 : Nat → FieldType := fun k => match k with
  | 0 => .object "ShoutGroups$Row"
  | _ => .int
abbrev wsX50 : List Cond := u_ws RX5 TX5 2
theorem nmX5 : ∀ a, a < 2 → ∀ b, b < 2 → a ≠ b → (TX5 a).2.1 ≠ (TX5 b).2.1 := by decide +kernel
theorem tyX5_ok : ∀ k, k < 2 → parseFieldDescriptor (TX5 k).2.2.1 = some (tyX5 k) := by decide +kernel
abbrev cX5_init : ByteArray := prog_7_method_1_code
def yX5_init : MethodName := ⟨RX5, "<init>", "()V"⟩
abbrev cX5_codeAt : ByteArray := prog_7_method_2_code
def yX5_codeAt : MethodName := ⟨RX5, "codeAt", "(I)I"⟩
abbrev cX5_append : ByteArray := prog_7_method_3_code
def yX5_append : MethodName := ⟨RX5, "append", "(I)V"⟩
def RX6 : String := "ShoutGroups$Row"
def TX6 : u_T := fun k => match k with
  | _ => ("ShoutGroups$Row", "cells", "[I", true)
def tyX6 : Nat → FieldType := fun k => match k with
  | _ => .array .int
abbrev wsX60 : List Cond := u_ws RX6 TX6 1
theorem nmX6 : ∀ a, a < 1 → ∀ b, b < 1 → a ≠ b → (TX6 a).2.1 ≠ (TX6 b).2.1 := by decide +kernel
theorem tyX6_ok : ∀ k, k < 1 → parseFieldDescriptor (TX6 k).2.2.1 = some (tyX6 k) := by decide +kernel
abbrev cX6_init : ByteArray := prog_8_method_1_code
def yX6_init : MethodName := ⟨RX6, "<init>", "(I)V"⟩
abbrev cX6_at : ByteArray := prog_8_method_2_code
def yX6_at : MethodName := ⟨RX6, "at", "(I)I"⟩
abbrev cX6_write : ByteArray := prog_8_method_3_code
def yX6_write : MethodName := ⟨RX6, "write", "(II)V"⟩
abbrev cX6_add : ByteArray := prog_8_method_4_code
def yX6_add : MethodName := ⟨RX6, "add", "(II)V"⟩
abbrev cX6_clear : ByteArray := prog_8_method_5_code
def yX6_clear : MethodName := ⟨RX6, "clear", "()V"⟩
abbrev cX6_copyFrom : ByteArray := prog_8_method_6_code
def yX6_copyFrom : MethodName := ⟨RX6, "copyFrom", "(LShoutGroups$Row;)V"⟩
def RX7 : String := "ShoutGroups$Shelves"
def TX7 : u_T := fun k => match k with
  | 0 => ("ShoutGroups$Shelves", "lengths", "LShoutGroups$Row;", true)
  | 1 => ("ShoutGroups$Shelves", "notes", "LShoutGroups$Row;", true)
  | 2 => ("ShoutGroups$Shelves", "values", "LShoutGroups$Row;", true)
  | 3 => ("ShoutGroups$Shelves", "changed", "LShoutGroups$Row;", true)
  | _ => ("ShoutGroups$Shelves", "holders", "LShoutGroups$Row;", true)
def tyX7 : Nat → FieldType := fun k => match k with
  | 0 => .object "ShoutGroups$Row"
  | 1 => .object "ShoutGroups$Row"
  | 2 => .object "ShoutGroups$Row"
  | 3 => .object "ShoutGroups$Row"
  | _ => .object "ShoutGroups$Row"
abbrev wsX70 : List Cond := u_ws RX7 TX7 5
theorem nmX7 : ∀ a, a < 5 → ∀ b, b < 5 → a ≠ b → (TX7 a).2.1 ≠ (TX7 b).2.1 := by decide +kernel
theorem tyX7_ok : ∀ k, k < 5 → parseFieldDescriptor (TX7 k).2.2.1 = some (tyX7 k) := by decide +kernel
abbrev cX7_init : ByteArray := prog_9_method_1_code
def yX7_init : MethodName := ⟨RX7, "<init>", "()V"⟩
abbrev cX7_noteAt : ByteArray := prog_9_method_2_code
def yX7_noteAt : MethodName := ⟨RX7, "noteAt", "(II)I"⟩
abbrev cX7_valueAt : ByteArray := prog_9_method_3_code
def yX7_valueAt : MethodName := ⟨RX7, "valueAt", "(II)I"⟩
abbrev cX7_isChangedAt : ByteArray := prog_9_method_4_code
def yX7_isChangedAt : MethodName := ⟨RX7, "isChangedAt", "(II)Z"⟩
abbrev cX7_holds : ByteArray := prog_9_method_5_code
def yX7_holds : MethodName := ⟨RX7, "holds", "(II)Z"⟩
abbrev cX7_placeOf : ByteArray := prog_9_method_6_code
def yX7_placeOf : MethodName := ⟨RX7, "placeOf", "(II)I"⟩
abbrev cX7_lay : ByteArray := prog_9_method_7_code
def yX7_lay : MethodName := ⟨RX7, "lay", "(IIIZ)V"⟩
abbrev cX7_remove : ByteArray := prog_9_method_8_code
def yX7_remove : MethodName := ⟨RX7, "remove", "(II)V"⟩
abbrev cX7_howMany : ByteArray := prog_9_method_9_code
def yX7_howMany : MethodName := ⟨RX7, "howMany", "()I"⟩
abbrev cX7_howManyChanged : ByteArray := prog_9_method_10_code
def yX7_howManyChanged : MethodName := ⟨RX7, "howManyChanged", "()I"⟩
abbrev cX7_clear : ByteArray := prog_9_method_11_code
def yX7_clear : MethodName := ⟨RX7, "clear", "()V"⟩
abbrev cX7_copyFrom : ByteArray := prog_9_method_12_code
def yX7_copyFrom : MethodName := ⟨RX7, "copyFrom", "(LShoutGroups$Shelves;)V"⟩
def RX8 : String := "ShoutGroups"
def TX8 : u_T := fun k => match k with
  | 0 => ("ShoutGroups", "library", "LShoutGroups$Library;", true)
  | 1 => ("ShoutGroups", "trial", "LShoutGroups$Library;", true)
  | 2 => ("ShoutGroups", "history", "LShoutGroups$History;", true)
  | 3 => ("ShoutGroups", "slots", "[LShoutGroups$Library;", true)
  | 4 => ("ShoutGroups", "pad", "LShoutGroups$Pad;", true)
  | _ => ("ShoutGroups", "orders", "LShoutGroups$Orders;", true)
def tyX8 : Nat → FieldType := fun k => match k with
  | 0 => .object "ShoutGroups$Library"
  | 1 => .object "ShoutGroups$Library"
  | 2 => .object "ShoutGroups$History"
  | 3 => .array (.object "ShoutGroups$Library")
  | 4 => .object "ShoutGroups$Pad"
  | _ => .object "ShoutGroups$Orders"
abbrev wsX80 : List Cond := u_ws RX8 TX8 6
theorem nmX8 : ∀ a, a < 6 → ∀ b, b < 6 → a ≠ b → (TX8 a).2.1 ≠ (TX8 b).2.1 := by decide +kernel
theorem tyX8_ok : ∀ k, k < 6 → parseFieldDescriptor (TX8 k).2.2.1 = some (tyX8 k) := by decide +kernel
abbrev cX8_init : ByteArray := prog_1_method_1_code
def yX8_init : MethodName := ⟨RX8, "<init>", "()V"⟩
abbrev cX8_set : ByteArray := prog_1_method_2_code
def yX8_set : MethodName := ⟨RX8, "set", "(II)I"⟩
abbrev cX8_read : ByteArray := prog_1_method_3_code
def yX8_read : MethodName := ⟨RX8, "read", "(II)I"⟩
abbrev cX8_change : ByteArray := prog_1_method_4_code
def yX8_change : MethodName := ⟨RX8, "change", "(III)I"⟩
abbrev cX8_putBack : ByteArray := prog_1_method_5_code
def yX8_putBack : MethodName := ⟨RX8, "putBack", "(II)I"⟩
abbrev cX8_recall : ByteArray := prog_1_method_6_code
def yX8_recall : MethodName := ⟨RX8, "recall", "(I)I"⟩
abbrev cX8_happen : ByteArray := prog_1_method_7_code
def yX8_happen : MethodName := ⟨RX8, "happen", "(IIIIZ)I"⟩
abbrev cX8_ofNote : ByteArray := prog_1_method_8_code
def yX8_ofNote : MethodName := ⟨RX8, "ofNote", "(II)I"⟩
abbrev cX8_onShelf : ByteArray := prog_1_method_9_code
def yX8_onShelf : MethodName := ⟨RX8, "onShelf", "(III)I"⟩
abbrev cX8_ofReader : ByteArray := prog_1_method_10_code
def yX8_ofReader : MethodName := ⟨RX8, "ofReader", "(II)I"⟩
abbrev cX8_count : ByteArray := prog_1_method_11_code
def yX8_count : MethodName := ⟨RX8, "count", "(I)I"⟩
abbrev cX8_costOfReading : ByteArray := prog_1_method_12_code
def yX8_costOfReading : MethodName := ⟨RX8, "costOfReading", "(II)I"⟩
abbrev cX8_costOfChange : ByteArray := prog_1_method_13_code
def yX8_costOfChange : MethodName := ⟨RX8, "costOfChange", "(III)I"⟩
abbrev cX8_cheapest : ByteArray := prog_1_method_14_code
def yX8_cheapest : MethodName := ⟨RX8, "cheapest", "(I)I"⟩
abbrev cX8_loudest : ByteArray := prog_1_method_15_code
def yX8_loudest : MethodName := ⟨RX8, "loudest", "(I)I"⟩
abbrev cX8_accountWith : ByteArray := prog_1_method_16_code
def yX8_accountWith : MethodName := ⟨RX8, "accountWith", "(II)I"⟩
abbrev cX8_best : ByteArray := prog_1_method_17_code
def yX8_best : MethodName := ⟨RX8, "best", "(I)I"⟩
abbrev cX8_account : ByteArray := prog_1_method_18_code
def yX8_account : MethodName := ⟨RX8, "account", "()I"⟩
abbrev cX8_put : ByteArray := prog_1_method_19_code
def yX8_put : MethodName := ⟨RX8, "put", "(J)I"⟩
abbrev cX8_wipe : ByteArray := prog_1_method_20_code
def yX8_wipe : MethodName := ⟨RX8, "wipe", "()I"⟩
abbrev cX8_fault : ByteArray := prog_1_method_21_code
def yX8_fault : MethodName := ⟨RX8, "fault", "()I"⟩
abbrev cX8_carryOut : ByteArray := prog_1_method_22_code
def yX8_carryOut : MethodName := ⟨RX8, "carryOut", "()I"⟩
abbrev cX8_howManyCharacters : ByteArray := prog_1_method_23_code
def yX8_howManyCharacters : MethodName := ⟨RX8, "howManyCharacters", "(J)I"⟩
abbrev cX8_codeAt : ByteArray := prog_1_method_24_code
def yX8_codeAt : MethodName := ⟨RX8, "codeAt", "(JI)I"⟩
abbrev cX8_undo : ByteArray := prog_1_method_25_code
def yX8_undo : MethodName := ⟨RX8, "undo", "()I"⟩
abbrev cX8_save : ByteArray := prog_1_method_26_code
def yX8_save : MethodName := ⟨RX8, "save", "(I)I"⟩
abbrev cX8_restore : ByteArray := prog_1_method_27_code
def yX8_restore : MethodName := ⟨RX8, "restore", "(I)I"⟩
abbrev cX8_isReader : ByteArray := prog_1_method_28_code
def yX8_isReader : MethodName := ⟨RX8, "isReader", "(I)Z"⟩
abbrev cX8_isNote : ByteArray := prog_1_method_29_code
def yX8_isNote : MethodName := ⟨RX8, "isNote", "(I)Z"⟩
abbrev cX8_isValueOf : ByteArray := prog_1_method_30_code
def yX8_isValueOf : MethodName := ⟨RX8, "isValueOf", "(II)Z"⟩
abbrev cX8_groupOf : ByteArray := prog_1_method_31_code
def yX8_groupOf : MethodName := ⟨RX8, "groupOf", "(II)I"⟩
abbrev cX8_only : ByteArray := prog_1_method_32_code
def yX8_only : MethodName := ⟨RX8, "only", "(I)I"⟩
abbrev cX8_isIn : ByteArray := prog_1_method_33_code
def yX8_isIn : MethodName := ⟨RX8, "isIn", "(II)Z"⟩
def RX9 : String := "ShoutGroupsModel"
def TX9 : u_T := fun k => match k with
  | 0 => ("ShoutGroupsModel", "at", "[I", true)
  | 1 => ("ShoutGroupsModel", "past", "[I", true)
  | 2 => ("ShoutGroupsModel", "pastFirst", "I", false)
  | 3 => ("ShoutGroupsModel", "pastMany", "I", false)
  | 4 => ("ShoutGroupsModel", "slots", "[I", true)
  | 5 => ("ShoutGroupsModel", "isSaved", "[Z", true)
  | 6 => ("ShoutGroupsModel", "aside", "[I", true)
  | 7 => ("ShoutGroupsModel", "pad", "[I", true)
  | 8 => ("ShoutGroupsModel", "padMany", "I", false)
  | 9 => ("ShoutGroupsModel", "spot", "I", false)
  | 10 => ("ShoutGroupsModel", "isWrong", "Z", false)
  | 11 => ("ShoutGroupsModel", "orders", "I", false)
  | 12 => ("ShoutGroupsModel", "sort", "[I", true)
  | _ => ("ShoutGroupsModel", "numbers", "[I", true)
def tyX9 : Nat → FieldType := fun k => match k with
  | 0 => .array .int
  | 1 => .array .int
  | 2 => .int
  | 3 => .int
  | 4 => .array .int
  | 5 => .array .boolean
  | 6 => .array .int
  | 7 => .array .int
  | 8 => .int
  | 9 => .int
  | 10 => .boolean
  | 11 => .int
  | 12 => .array .int
  | _ => .array .int
abbrev wsX90 : List Cond := u_ws RX9 TX9 14
theorem nmX9 : ∀ a, a < 14 → ∀ b, b < 14 → a ≠ b → (TX9 a).2.1 ≠ (TX9 b).2.1 := by decide +kernel
theorem tyX9_ok : ∀ k, k < 14 → parseFieldDescriptor (TX9 k).2.2.1 = some (tyX9 k) := by decide +kernel
abbrev cX9_init : ByteArray := prog_11_method_1_code
def yX9_init : MethodName := ⟨RX9, "<init>", "()V"⟩
abbrev cX9_in : ByteArray := prog_11_method_3_code
def yX9_in : MethodName := ⟨RX9, "in", "(III)Z"⟩
abbrev cX9_has : ByteArray := prog_11_method_4_code
def yX9_has : MethodName := ⟨RX9, "has", "(II)Z"⟩
abbrev cX9_many : ByteArray := prog_11_method_5_code
def yX9_many : MethodName := ⟨RX9, "many", "(I)I"⟩
abbrev cX9_isReader : ByteArray := prog_11_method_6_code
def yX9_isReader : MethodName := ⟨RX9, "isReader", "(I)Z"⟩
abbrev cX9_isNote : ByteArray := prog_11_method_7_code
def yX9_isNote : MethodName := ⟨RX9, "isNote", "(I)Z"⟩
abbrev cX9_ofN : ByteArray := prog_11_method_8_code
def yX9_ofN : MethodName := ⟨RX9, "ofN", "(II)I"⟩
abbrev cX9_layN : ByteArray := prog_11_method_9_code
def yX9_layN : MethodName := ⟨RX9, "layN", "(III)V"⟩
abbrev cX9_ofR : ByteArray := prog_11_method_10_code
def yX9_ofR : MethodName := ⟨RX9, "ofR", "(II)I"⟩
abbrev cX9_moreR : ByteArray := prog_11_method_11_code
def yX9_moreR : MethodName := ⟨RX9, "moreR", "(III)V"⟩
abbrev cX9_ofC : ByteArray := prog_11_method_12_code
def yX9_ofC : MethodName := ⟨RX9, "ofC", "(III)I"⟩
abbrev cX9_layC : ByteArray := prog_11_method_13_code
def yX9_layC : MethodName := ⟨RX9, "layC", "(IIII)V"⟩
abbrev cX9_keep : ByteArray := prog_11_method_14_code
def yX9_keep : MethodName := ⟨RX9, "keep", "()V"⟩
abbrev cX9_keepIf : ByteArray := prog_11_method_15_code
def yX9_keepIf : MethodName := ⟨RX9, "keepIf", "(Z)V"⟩
abbrev cX9_layAside : ByteArray := prog_11_method_16_code
def yX9_layAside : MethodName := ⟨RX9, "layAside", "()V"⟩
abbrev cX9_layBack : ByteArray := prog_11_method_17_code
def yX9_layBack : MethodName := ⟨RX9, "layBack", "()V"⟩
abbrev cX9_placeOf : ByteArray := prog_11_method_18_code
def yX9_placeOf : MethodName := ⟨RX9, "placeOf", "(II)I"⟩
abbrev cX9_takeOff : ByteArray := prog_11_method_19_code
def yX9_takeOff : MethodName := ⟨RX9, "takeOff", "(II)V"⟩
abbrev cX9_layOn : ByteArray := prog_11_method_20_code
def yX9_layOn : MethodName := ⟨RX9, "layOn", "(IIII)V"⟩
abbrev cX9_use : ByteArray := prog_11_method_21_code
def yX9_use : MethodName := ⟨RX9, "use", "(II)V"⟩
abbrev cX9_giveBack : ByteArray := prog_11_method_22_code
def yX9_giveBack : MethodName := ⟨RX9, "giveBack", "(II)V"⟩
abbrev cX9_group : ByteArray := prog_11_method_23_code
def yX9_group : MethodName := ⟨RX9, "group", "(I)I"⟩
abbrev cX9_called : ByteArray := prog_11_method_24_code
def yX9_called : MethodName := ⟨RX9, "called", "(I)I"⟩
abbrev cX9_layCard : ByteArray := prog_11_method_25_code
def yX9_layCard : MethodName := ⟨RX9, "layCard", "(III)V"⟩
abbrev cX9_groupsOf : ByteArray := prog_11_method_26_code
def yX9_groupsOf : MethodName := ⟨RX9, "groupsOf", "(I)I"⟩
abbrev cX9_writeOn : ByteArray := prog_11_method_27_code
def yX9_writeOn : MethodName := ⟨RX9, "writeOn", "(II)V"⟩
abbrev cX9_strike : ByteArray := prog_11_method_28_code
def yX9_strike : MethodName := ⟨RX9, "strike", "(II)V"⟩
abbrev cX9_callBack : ByteArray := prog_11_method_29_code
def yX9_callBack : MethodName := ⟨RX9, "callBack", "(II)V"⟩
abbrev cX9_callBackBut : ByteArray := prog_11_method_30_code
def yX9_callBackBut : MethodName := ⟨RX9, "callBackBut", "(II)V"⟩
abbrev cX9_returned : ByteArray := prog_11_method_31_code
def yX9_returned : MethodName := ⟨RX9, "returned", "(II)I"⟩
abbrev cX9_makeRoom : ByteArray := prog_11_method_32_code
def yX9_makeRoom : MethodName := ⟨RX9, "makeRoom", "(I)V"⟩
abbrev cX9_ask : ByteArray := prog_11_method_33_code
def yX9_ask : MethodName := ⟨RX9, "ask", "(II)V"⟩
abbrev cX9_reads : ByteArray := prog_11_method_34_code
def yX9_reads : MethodName := ⟨RX9, "reads", "(II)I"⟩
abbrev cX9_changes : ByteArray := prog_11_method_35_code
def yX9_changes : MethodName := ⟨RX9, "changes", "(III)I"⟩
abbrev cX9_enter : ByteArray := prog_11_method_36_code
def yX9_enter : MethodName := ⟨RX9, "enter", "(III)V"⟩
abbrev cX9_tryRead : ByteArray := prog_11_method_37_code
def yX9_tryRead : MethodName := ⟨RX9, "tryRead", "(IIZ)I"⟩
abbrev cX9_read : ByteArray := prog_11_method_38_code
def yX9_read : MethodName := ⟨RX9, "read", "(II)I"⟩
abbrev cX9_tryChange : ByteArray := prog_11_method_39_code
def yX9_tryChange : MethodName := ⟨RX9, "tryChange", "(IIIZ)I"⟩
abbrev cX9_change : ByteArray := prog_11_method_40_code
def yX9_change : MethodName := ⟨RX9, "change", "(III)I"⟩
abbrev cX9_tryPutBack : ByteArray := prog_11_method_41_code
def yX9_tryPutBack : MethodName := ⟨RX9, "tryPutBack", "(IIZ)I"⟩
abbrev cX9_putBack : ByteArray := prog_11_method_42_code
def yX9_putBack : MethodName := ⟨RX9, "putBack", "(II)I"⟩
abbrev cX9_tryRecall : ByteArray := prog_11_method_43_code
def yX9_tryRecall : MethodName := ⟨RX9, "tryRecall", "(IZ)I"⟩
abbrev cX9_recall : ByteArray := prog_11_method_44_code
def yX9_recall : MethodName := ⟨RX9, "recall", "(I)I"⟩
abbrev cX9_cardsThat : ByteArray := prog_11_method_45_code
def yX9_cardsThat : MethodName := ⟨RX9, "cardsThat", "(II)I"⟩
abbrev cX9_set : ByteArray := prog_11_method_46_code
def yX9_set : MethodName := ⟨RX9, "set", "(II)I"⟩
abbrev cX9_holders : ByteArray := prog_11_method_47_code
def yX9_holders : MethodName := ⟨RX9, "holders", "(I)I"⟩
abbrev cX9_valueNow : ByteArray := prog_11_method_48_code
def yX9_valueNow : MethodName := ⟨RX9, "valueNow", "(I)I"⟩
abbrev cX9_ofNote : ByteArray := prog_11_method_49_code
def yX9_ofNote : MethodName := ⟨RX9, "ofNote", "(II)I"⟩
abbrev cX9_onShelf : ByteArray := prog_11_method_50_code
def yX9_onShelf : MethodName := ⟨RX9, "onShelf", "(III)I"⟩
abbrev cX9_callers : ByteArray := prog_11_method_51_code
def yX9_callers : MethodName := ⟨RX9, "callers", "(I)I"⟩
abbrev cX9_ofReader : ByteArray := prog_11_method_52_code
def yX9_ofReader : MethodName := ⟨RX9, "ofReader", "(II)I"⟩
abbrev cX9_copies : ByteArray := prog_11_method_53_code
def yX9_copies : MethodName := ⟨RX9, "copies", "(Z)I"⟩
abbrev cX9_count : ByteArray := prog_11_method_54_code
def yX9_count : MethodName := ⟨RX9, "count", "(I)I"⟩
abbrev cX9_costOfReading : ByteArray := prog_11_method_55_code
def yX9_costOfReading : MethodName := ⟨RX9, "costOfReading", "(II)I"⟩
abbrev cX9_cost : ByteArray := prog_11_method_56_code
def yX9_cost : MethodName := ⟨RX9, "cost", "(III)I"⟩
abbrev cX9_costOfChange : ByteArray := prog_11_method_57_code
def yX9_costOfChange : MethodName := ⟨RX9, "costOfChange", "(III)I"⟩
abbrev cX9_cheapest : ByteArray := prog_11_method_58_code
def yX9_cheapest : MethodName := ⟨RX9, "cheapest", "(I)I"⟩
abbrev cX9_fewestWasted : ByteArray := prog_11_method_59_code
def yX9_fewestWasted : MethodName := ⟨RX9, "fewestWasted", "(I)I"⟩
abbrev cX9_loudest : ByteArray := prog_11_method_60_code
def yX9_loudest : MethodName := ⟨RX9, "loudest", "(I)I"⟩
abbrev cX9_messagesWith : ByteArray := prog_11_method_61_code
def yX9_messagesWith : MethodName := ⟨RX9, "messagesWith", "(II)I"⟩
abbrev cX9_accountWith : ByteArray := prog_11_method_62_code
def yX9_accountWith : MethodName := ⟨RX9, "accountWith", "(II)I"⟩
abbrev cX9_best : ByteArray := prog_11_method_63_code
def yX9_best : MethodName := ⟨RX9, "best", "(I)I"⟩
abbrev cX9_account : ByteArray := prog_11_method_64_code
def yX9_account : MethodName := ⟨RX9, "account", "()I"⟩
abbrev cX9_put : ByteArray := prog_11_method_65_code
def yX9_put : MethodName := ⟨RX9, "put", "(J)I"⟩
abbrev cX9_wipe : ByteArray := prog_11_method_66_code
def yX9_wipe : MethodName := ⟨RX9, "wipe", "()I"⟩
abbrev cX9_next : ByteArray := prog_11_method_67_code
def yX9_next : MethodName := ⟨RX9, "next", "()I"⟩
abbrev cX9_takeSign : ByteArray := prog_11_method_68_code
def yX9_takeSign : MethodName := ⟨RX9, "takeSign", "(I)V"⟩
abbrev cX9_takeNumber : ByteArray := prog_11_method_69_code
def yX9_takeNumber : MethodName := ⟨RX9, "takeNumber", "(I)V"⟩
abbrev cX9_takeOrder : ByteArray := prog_11_method_70_code
def yX9_takeOrder : MethodName := ⟨RX9, "takeOrder", "()V"⟩
abbrev cX9_fault : ByteArray := prog_11_method_71_code
def yX9_fault : MethodName := ⟨RX9, "fault", "()I"⟩
abbrev cX9_carry : ByteArray := prog_11_method_72_code
def yX9_carry : MethodName := ⟨RX9, "carry", "(I)I"⟩
abbrev cX9_carryOut : ByteArray := prog_11_method_73_code
def yX9_carryOut : MethodName := ⟨RX9, "carryOut", "()I"⟩
abbrev cX9_undo : ByteArray := prog_11_method_74_code
def yX9_undo : MethodName := ⟨RX9, "undo", "()I"⟩
abbrev cX9_save : ByteArray := prog_11_method_75_code
def yX9_save : MethodName := ⟨RX9, "save", "(I)I"⟩
abbrev cX9_restore : ByteArray := prog_11_method_76_code
def yX9_restore : MethodName := ⟨RX9, "restore", "(I)I"⟩
def RJ6 : String := "java/lang/Integer"
def TJ6 : u_T := fun k => match k with
  | _ => ("", "", "", false)
def tyJ6 : Nat → FieldType := fun k => match k with
  | _ => .int
abbrev wsJ60 : List Cond := u_ws RJ6 TJ6 0
theorem nmJ6 : ∀ a, a < 0 → ∀ b, b < 0 → a ≠ b → (TJ6 a).2.1 ≠ (TJ6 b).2.1 := by decide +kernel
theorem tyJ6_ok : ∀ k, k < 0 → parseFieldDescriptor (TJ6 k).2.2.1 = some (tyJ6 k) := by decide +kernel
abbrev cJ6_bitCount_0f7a4 : ByteArray := prog_12_method_49_code
def yJ6_bitCount_0f7a4 : MethodName := ⟨RJ6, "bitCount", "(I)I"⟩
def RJ9 : String := "java/lang/Math"
def TJ9 : u_T := fun k => match k with
  | _ => ("", "", "", false)
def tyJ9 : Nat → FieldType := fun k => match k with
  | _ => .int
abbrev wsJ90 : List Cond := u_ws RJ9 TJ9 0
theorem nmJ9 : ∀ a, a < 0 → ∀ b, b < 0 → a ≠ b → (TJ9 a).2.1 ≠ (TJ9 b).2.1 := by decide +kernel
theorem tyJ9_ok : ∀ k, k < 0 → parseFieldDescriptor (TJ9 k).2.2.1 = some (tyJ9 k) := by decide +kernel
abbrev cJ9_max_7cf53 : ByteArray := prog_13_method_65_code
def yJ9_max_7cf53 : MethodName := ⟨RJ9, "max", "(II)I"⟩
abbrev cJ9_min_7cf53 : ByteArray := prog_13_method_69_code
def yJ9_min_7cf53 : MethodName := ⟨RJ9, "min", "(II)I"⟩
def RJ10 : String := "java/lang/System"
def TJ10 : u_T := fun k => match k with
  | _ => ("", "", "", false)
def tyJ10 : Nat → FieldType := fun k => match k with
  | _ => .int
abbrev wsJ100 : List Cond := u_ws RJ10 TJ10 0
theorem nmJ10 : ∀ a, a < 0 → ∀ b, b < 0 → a ≠ b → (TJ10 a).2.1 ≠ (TJ10 b).2.1 := by decide +kernel
theorem tyJ10_ok : ∀ k, k < 0 → parseFieldDescriptor (TJ10 k).2.2.1 = some (tyJ10 k) := by decide +kernel
def RJ7 : String := "java/util/Arrays"
def TJ7 : u_T := fun k => match k with
  | _ => ("", "", "", false)
def tyJ7 : Nat → FieldType := fun k => match k with
  | _ => .int
abbrev wsJ70 : List Cond := u_ws RJ7 TJ7 0
theorem nmJ7 : ∀ a, a < 0 → ∀ b, b < 0 → a ≠ b → (TJ7 a).2.1 ≠ (TJ7 b).2.1 := by decide +kernel
theorem tyJ7_ok : ∀ k, k < 0 → parseFieldDescriptor (TJ7 k).2.2.1 = some (tyJ7 k) := by decide +kernel
abbrev cJ7_fill_53178 : ByteArray := prog_15_method_103_code
def yJ7_fill_53178 : MethodName := ⟨RJ7, "fill", "([II)V"⟩
def RL : String := "ShoutGroupsLaw"
abbrev cL_law : ByteArray := code
def yL_law : MethodName := ⟨RL, "law", "([I)Z"⟩
abbrev vwCl : List vw_C := [(RX0, TX0, 5), (RX1, TX1, 2), (RX2, TX2, 3), (RX3, TX3, 12), (RX4, TX4, 7), (RX5, TX5, 2), (RX6, TX6, 1), (RX7, TX7, 5), (RX8, TX8, 6), (RX9, TX9, 14)]
end
section
/-- the tables' words that stay true -/
def wsL_law : List Cond := lw_tbl.filter goodWord
theorem wsL_in : ∀ w ∈ wsL_law, w ∈ lw_tbl := fun w h => (List.mem_filter.mp h).1
theorem wsL_good : ∀ w ∈ wsL_law, (w.onTables && w.keeps) = true ∨ ∃ ty, w = .arrayClass ty := fun w h => good_of_word (List.mem_filter.mp h).2
theorem tb_0 {w : Cond} (i : Nat) (h : tables_1_1[i]? = some w) (hg : goodWord w = true) : w ∈ wsL_law := List.mem_filter.mpr ⟨List.mem_append_right _ ((fun h => List.mem_append_left _ h) (List.mem_of_getElem? h)), hg⟩
theorem tb_1 {w : Cond} (i : Nat) (h : tables_1_2[i]? = some w) (hg : goodWord w = true) : w ∈ wsL_law := List.mem_filter.mpr ⟨List.mem_append_right _ ((fun h => List.mem_append_right _ (List.mem_append_left _ h)) (List.mem_of_getElem? h)), hg⟩
theorem tb_2 {w : Cond} (i : Nat) (h : tables_1_3[i]? = some w) (hg : goodWord w = true) : w ∈ wsL_law := List.mem_filter.mpr ⟨List.mem_append_right _ ((fun h => List.mem_append_right _ (List.mem_append_right _ (List.mem_append_left _ h))) (List.mem_of_getElem? h)), hg⟩
theorem tb_3 {w : Cond} (i : Nat) (h : tables_1_4[i]? = some w) (hg : goodWord w = true) : w ∈ wsL_law := List.mem_filter.mpr ⟨List.mem_append_right _ ((fun h => List.mem_append_right _ (List.mem_append_right _ (List.mem_append_right _ (List.mem_append_left _ h)))) (List.mem_of_getElem? h)), hg⟩
theorem tb_4 {w : Cond} (i : Nat) (h : tables_1_5[i]? = some w) (hg : goodWord w = true) : w ∈ wsL_law := List.mem_filter.mpr ⟨List.mem_append_right _ ((fun h => List.mem_append_right _ (List.mem_append_right _ (List.mem_append_right _ (List.mem_append_right _ (h))))) (List.mem_of_getElem? h)), hg⟩
theorem tp_1 {q : MethodName × Nat} (i : Nat) (h : lw_privs_1[i]? = some q) : Cond.selects q.1.cls q.1 q.1 ∈ wsL_law := List.mem_filter.mpr ⟨List.mem_append_left _ (List.mem_map.mpr ⟨q, (fun h => List.mem_append_left _ h) (List.mem_of_getElem? h), rfl⟩), rfl⟩
theorem tp_2 {q : MethodName × Nat} (i : Nat) (h : lw_privs_2[i]? = some q) : Cond.selects q.1.cls q.1 q.1 ∈ wsL_law := List.mem_filter.mpr ⟨List.mem_append_left _ (List.mem_map.mpr ⟨q, (fun h => List.mem_append_right _ (List.mem_append_left _ h)) (List.mem_of_getElem? h), rfl⟩), rfl⟩
theorem tp_3 {q : MethodName × Nat} (i : Nat) (h : lw_privs_3[i]? = some q) : Cond.selects q.1.cls q.1 q.1 ∈ wsL_law := List.mem_filter.mpr ⟨List.mem_append_left _ (List.mem_map.mpr ⟨q, (fun h => List.mem_append_right _ (List.mem_append_right _ (List.mem_append_left _ h))) (List.mem_of_getElem? h), rfl⟩), rfl⟩
theorem tp_4 {q : MethodName × Nat} (i : Nat) (h : lw_privs_4[i]? = some q) : Cond.selects q.1.cls q.1 q.1 ∈ wsL_law := List.mem_filter.mpr ⟨List.mem_append_left _ (List.mem_map.mpr ⟨q, (fun h => List.mem_append_right _ (List.mem_append_right _ (List.mem_append_right _ (h)))) (List.mem_of_getElem? h), rfl⟩), rfl⟩
theorem clL_7 : Cond.classLink RL 7 RX8 ∈ wsL_law := tb_0 15 rfl rfl
theorem ins_X8 : Cond.instantiable RX8 6 ∈ wsL_law := tb_0 16 rfl rfl
theorem ini_X8 : Cond.initialized RX8 ∈ wsL_law := tb_0 1 rfl rfl
theorem clL_10 : Cond.classLink RL 10 RX9 ∈ wsL_law := tb_2 211 rfl rfl
theorem ins_X9 : Cond.instantiable RX9 14 ∈ wsL_law := tb_2 212 rfl rfl
theorem ini_X9 : Cond.initialized RX9 ∈ wsL_law := tb_0 10 rfl rfl
theorem klL_81 : Cond.constantLong RL 81 (4294967295) ∈ wsL_law := tb_4 74 rfl rfl
theorem mlL_9 : Cond.methodLink RL 9 yX8_init ∈ wsL_law := tb_0 17 rfl rfl
theorem im_X8_init : Cond.instanceMethod yX8_init ∈ wsL_law := tb_0 18 rfl rfl
theorem co_X8_init : Cond.code yX8_init cX8_init 1 none ∈ wsL_law := tb_0 19 rfl rfl
theorem mlX8_1 : Cond.methodLink RX8 1 objectInit ∈ wsL_law := tb_0 20 rfl rfl
theorem im_bjectInit : Cond.instanceMethod objectInit ∈ wsL_law := tb_0 21 rfl rfl
theorem co_bjectInit : Cond.code objectInit ⟨#[0xb1]⟩ 1 none ∈ wsL_law := tb_0 22 rfl rfl
theorem clX8_7 : Cond.classLink RX8 7 RX3 ∈ wsL_law := tb_0 23 rfl rfl
theorem ins_X3 : Cond.instantiable RX3 12 ∈ wsL_law := tb_0 24 rfl rfl
theorem ini_X3 : Cond.initialized RX3 ∈ wsL_law := tb_0 2 rfl rfl
theorem flX8_10 : Cond.fieldLink RX8 10 "ShoutGroups" "library" "LShoutGroups$Library;" ∈ wsL_law := tb_1 0 rfl rfl
theorem flX8_16 : Cond.fieldLink RX8 16 "ShoutGroups" "trial" "LShoutGroups$Library;" ∈ wsL_law := tb_1 1 rfl rfl
theorem clX8_19 : Cond.classLink RX8 19 RX2 ∈ wsL_law := tb_0 170 rfl rfl
theorem ins_X2 : Cond.instantiable RX2 3 ∈ wsL_law := tb_0 171 rfl rfl
theorem ini_X2 : Cond.initialized RX2 ∈ wsL_law := tb_0 7 rfl rfl
theorem flX8_22 : Cond.fieldLink RX8 22 "ShoutGroups" "history" "LShoutGroups$History;" ∈ wsL_law := tb_1 2 rfl rfl
theorem flX8_26 : Cond.fieldLink RX8 26 "ShoutGroups" "slots" "[LShoutGroups$Library;" ∈ wsL_law := tb_1 3 rfl rfl
theorem clX8_30 : Cond.classLink RX8 30 RX5 ∈ wsL_law := tb_0 190 rfl rfl
theorem ins_X5 : Cond.instantiable RX5 2 ∈ wsL_law := tb_0 191 rfl rfl
theorem ini_X5 : Cond.initialized RX5 ∈ wsL_law := tb_0 8 rfl rfl
theorem flX8_33 : Cond.fieldLink RX8 33 "ShoutGroups" "pad" "LShoutGroups$Pad;" ∈ wsL_law := tb_1 4 rfl rfl
theorem clX8_37 : Cond.classLink RX8 37 RX4 ∈ wsL_law := tb_0 207 rfl rfl
theorem ins_X4 : Cond.instantiable RX4 7 ∈ wsL_law := tb_0 208 rfl rfl
theorem ini_X4 : Cond.initialized RX4 ∈ wsL_law := tb_0 9 rfl rfl
theorem flX8_42 : Cond.fieldLink RX8 42 "ShoutGroups" "orders" "LShoutGroups$Orders;" ∈ wsL_law := tb_1 5 rfl rfl
theorem mlX8_9 : Cond.methodLink RX8 9 yX3_init ∈ wsL_law := tb_0 25 rfl rfl
theorem im_X3_init : Cond.instanceMethod yX3_init ∈ wsL_law := tb_0 26 rfl rfl
theorem co_X3_init : Cond.code yX3_init cX3_init 2 none ∈ wsL_law := tb_0 27 rfl rfl
theorem mlX3_3 : Cond.methodLink RX3 3 objectInit ∈ wsL_law := tb_0 28 rfl rfl
theorem clX3_9 : Cond.classLink RX3 9 RX6 ∈ wsL_law := tb_0 29 rfl rfl
theorem ins_X6 : Cond.instantiable RX6 1 ∈ wsL_law := tb_0 30 rfl rfl
theorem ini_X6 : Cond.initialized RX6 ∈ wsL_law := tb_0 3 rfl rfl
theorem flX3_18 : Cond.fieldLink RX3 18 "ShoutGroups$Library" "settings" "LShoutGroups$Row;" ∈ wsL_law := tb_0 121 rfl rfl
theorem flX3_24 : Cond.fieldLink RX3 24 "ShoutGroups$Library" "values" "LShoutGroups$Row;" ∈ wsL_law := tb_0 123 rfl rfl
theorem clX3_27 : Cond.classLink RX3 27 RX1 ∈ wsL_law := tb_0 42 rfl rfl
theorem ins_X1 : Cond.instantiable RX1 2 ∈ wsL_law := tb_0 43 rfl rfl
theorem ini_X1 : Cond.initialized RX1 ∈ wsL_law := tb_0 4 rfl rfl
theorem flX3_30 : Cond.fieldLink RX3 30 "ShoutGroups$Library" "cards" "LShoutGroups$Cards;" ∈ wsL_law := tb_0 125 rfl rfl
theorem clX3_34 : Cond.classLink RX3 34 RX7 ∈ wsL_law := tb_0 60 rfl rfl
theorem ins_X7 : Cond.instantiable RX7 5 ∈ wsL_law := tb_0 61 rfl rfl
theorem ini_X7 : Cond.initialized RX7 ∈ wsL_law := tb_0 5 rfl rfl
theorem flX3_37 : Cond.fieldLink RX3 37 "ShoutGroups$Library" "shelves" "LShoutGroups$Shelves;" ∈ wsL_law := tb_0 127 rfl rfl
theorem clX3_41 : Cond.classLink RX3 41 RX0 ∈ wsL_law := tb_0 88 rfl rfl
theorem ins_X0 : Cond.instantiable RX0 5 ∈ wsL_law := tb_0 89 rfl rfl
theorem ini_X0 : Cond.initialized RX0 ∈ wsL_law := tb_0 6 rfl rfl
theorem flX3_44 : Cond.fieldLink RX3 44 "ShoutGroups$Library" "account" "LShoutGroups$Account;" ∈ wsL_law := tb_0 129 rfl rfl
theorem flX3_48 : Cond.fieldLink RX3 48 "ShoutGroups$Library" "totals" "LShoutGroups$Row;" ∈ wsL_law := tb_0 131 rfl rfl
theorem flX3_51 : Cond.fieldLink RX3 51 "ShoutGroups$Library" "noteCalledBack" "LShoutGroups$Row;" ∈ wsL_law := tb_0 133 rfl rfl
theorem flX3_54 : Cond.fieldLink RX3 54 "ShoutGroups$Library" "noteShouts" "LShoutGroups$Row;" ∈ wsL_law := tb_0 135 rfl rfl
theorem flX3_57 : Cond.fieldLink RX3 57 "ShoutGroups$Library" "readerUses" "LShoutGroups$Row;" ∈ wsL_law := tb_0 137 rfl rfl
theorem flX3_60 : Cond.fieldLink RX3 60 "ShoutGroups$Library" "readerQuietUses" "LShoutGroups$Row;" ∈ wsL_law := tb_0 139 rfl rfl
theorem flX3_63 : Cond.fieldLink RX3 63 "ShoutGroups$Library" "readerCalledBack" "LShoutGroups$Row;" ∈ wsL_law := tb_0 141 rfl rfl
theorem flX3_66 : Cond.fieldLink RX3 66 "ShoutGroups$Library" "readerWasted" "LShoutGroups$Row;" ∈ wsL_law := tb_0 143 rfl rfl
theorem mlX3_15 : Cond.methodLink RX3 15 yX6_init ∈ wsL_law := tb_0 33 rfl rfl
theorem im_X6_init : Cond.instanceMethod yX6_init ∈ wsL_law := tb_0 34 rfl rfl
theorem co_X6_init : Cond.code yX6_init cX6_init 2 none ∈ wsL_law := tb_0 35 rfl rfl
theorem mlX6_1 : Cond.methodLink RX6 1 objectInit ∈ wsL_law := tb_0 36 rfl rfl
theorem ac_int : Cond.arrayClass .int ∈ wsL_law := tb_0 41 rfl rfl
theorem flX6_7 : Cond.fieldLink RX6 7 "ShoutGroups$Row" "cells" "[I" ∈ wsL_law := tb_0 37 rfl rfl
theorem im_X1_init : Cond.instanceMethod yX1_init ∈ wsL_law := tb_0 45 rfl rfl
theorem co_X1_init : Cond.code yX1_init cX1_init 1 none ∈ wsL_law := tb_0 46 rfl rfl
theorem mlX1_3 : Cond.methodLink RX1 3 objectInit ∈ wsL_law := tb_0 47 rfl rfl
theorem clX1_9 : Cond.classLink RX1 9 RX6 ∈ wsL_law := tb_0 48 rfl rfl
theorem flX1_14 : Cond.fieldLink RX1 14 "ShoutGroups$Cards" "kinds" "LShoutGroups$Row;" ∈ wsL_law := tb_0 50 rfl rfl
theorem flX1_20 : Cond.fieldLink RX1 20 "ShoutGroups$Cards" "names" "LShoutGroups$Row;" ∈ wsL_law := tb_0 53 rfl rfl
theorem mlX1_11 : Cond.methodLink RX1 11 yX6_init ∈ wsL_law := tb_0 49 rfl rfl
theorem im_X7_init : Cond.instanceMethod yX7_init ∈ wsL_law := tb_0 63 rfl rfl
theorem co_X7_init : Cond.code yX7_init cX7_init 1 none ∈ wsL_law := tb_0 64 rfl rfl
theorem mlX7_3 : Cond.methodLink RX7 3 objectInit ∈ wsL_law := tb_0 65 rfl rfl
theorem clX7_9 : Cond.classLink RX7 9 RX6 ∈ wsL_law := tb_0 66 rfl rfl
theorem flX7_14 : Cond.fieldLink RX7 14 "ShoutGroups$Shelves" "lengths" "LShoutGroups$Row;" ∈ wsL_law := tb_0 68 rfl rfl
theorem flX7_20 : Cond.fieldLink RX7 20 "ShoutGroups$Shelves" "notes" "LShoutGroups$Row;" ∈ wsL_law := tb_0 71 rfl rfl
theorem flX7_23 : Cond.fieldLink RX7 23 "ShoutGroups$Shelves" "values" "LShoutGroups$Row;" ∈ wsL_law := tb_0 72 rfl rfl
theorem flX7_26 : Cond.fieldLink RX7 26 "ShoutGroups$Shelves" "changed" "LShoutGroups$Row;" ∈ wsL_law := tb_0 73 rfl rfl
theorem flX7_29 : Cond.fieldLink RX7 29 "ShoutGroups$Shelves" "holders" "LShoutGroups$Row;" ∈ wsL_law := tb_0 74 rfl rfl
theorem mlX7_11 : Cond.methodLink RX7 11 yX6_init ∈ wsL_law := tb_0 67 rfl rfl
theorem im_X0_init : Cond.instanceMethod yX0_init ∈ wsL_law := tb_0 91 rfl rfl
theorem co_X0_init : Cond.code yX0_init cX0_init 1 none ∈ wsL_law := tb_0 92 rfl rfl
theorem mlX0_3 : Cond.methodLink RX0 3 objectInit ∈ wsL_law := tb_0 93 rfl rfl
theorem clX0_9 : Cond.classLink RX0 9 RX6 ∈ wsL_law := tb_0 94 rfl rfl
theorem flX0_14 : Cond.fieldLink RX0 14 "ShoutGroups$Account" "kinds" "LShoutGroups$Row;" ∈ wsL_law := tb_0 96 rfl rfl
theorem flX0_20 : Cond.fieldLink RX0 20 "ShoutGroups$Account" "readers" "LShoutGroups$Row;" ∈ wsL_law := tb_0 98 rfl rfl
theorem flX0_23 : Cond.fieldLink RX0 23 "ShoutGroups$Account" "notes" "LShoutGroups$Row;" ∈ wsL_law := tb_0 100 rfl rfl
theorem mlX0_11 : Cond.methodLink RX0 11 yX6_init ∈ wsL_law := tb_0 95 rfl rfl
theorem mlX3_69 : Cond.methodLink RX3 69 yX6_write ∈ wsL_law := tb_0 117 rfl rfl
theorem im_X6_write : Cond.instanceMethod yX6_write ∈ wsL_law := tb_0 118 rfl rfl
theorem se_X6_write : Cond.selects RX6 yX6_write yX6_write ∈ wsL_law := tb_0 119 rfl rfl
theorem co_X6_write : Cond.code yX6_write cX6_write 3 none ∈ wsL_law := tb_0 120 rfl rfl
theorem mlX8_21 : Cond.methodLink RX8 21 yX2_init ∈ wsL_law := tb_0 172 rfl rfl
theorem im_X2_init : Cond.instanceMethod yX2_init ∈ wsL_law := tb_0 173 rfl rfl
theorem co_X2_init : Cond.code yX2_init cX2_init 2 none ∈ wsL_law := tb_0 174 rfl rfl
theorem mlX2_3 : Cond.methodLink RX2 3 objectInit ∈ wsL_law := tb_0 175 rfl rfl
theorem clX2_9 : Cond.classLink RX2 9 RX3 ∈ wsL_law := tb_0 176 rfl rfl
theorem flX2_11 : Cond.fieldLink RX2 11 "ShoutGroups$History" "states" "[LShoutGroups$Library;" ∈ wsL_law := tb_0 179 rfl rfl
theorem mlX2_17 : Cond.methodLink RX2 17 yX3_init ∈ wsL_law := tb_0 178 rfl rfl
theorem im_X5_init : Cond.instanceMethod yX5_init ∈ wsL_law := tb_0 193 rfl rfl
theorem co_X5_init : Cond.code yX5_init cX5_init 1 none ∈ wsL_law := tb_0 194 rfl rfl
theorem mlX5_3 : Cond.methodLink RX5 3 objectInit ∈ wsL_law := tb_0 195 rfl rfl
theorem clX5_9 : Cond.classLink RX5 9 RX6 ∈ wsL_law := tb_0 196 rfl rfl
theorem flX5_14 : Cond.fieldLink RX5 14 "ShoutGroups$Pad" "codes" "LShoutGroups$Row;" ∈ wsL_law := tb_0 198 rfl rfl
theorem mlX5_11 : Cond.methodLink RX5 11 yX6_init ∈ wsL_law := tb_0 197 rfl rfl
theorem mlX8_39 : Cond.methodLink RX8 39 yX4_init ∈ wsL_law := tb_0 209 rfl rfl
theorem im_X4_init : Cond.instanceMethod yX4_init ∈ wsL_law := tb_0 210 rfl rfl
theorem co_X4_init : Cond.code yX4_init cX4_init 2 none ∈ wsL_law := tb_0 211 rfl rfl
theorem mlX4_3 : Cond.methodLink RX4 3 objectInit ∈ wsL_law := tb_0 212 rfl rfl
theorem flX4_9 : Cond.fieldLink RX4 9 "ShoutGroups$Orders" "pad" "LShoutGroups$Pad;" ∈ wsL_law := tb_0 213 rfl rfl
theorem mlL_12 : Cond.methodLink RL 12 yX9_init ∈ wsL_law := tb_2 213 rfl rfl
theorem im_X9_init : Cond.instanceMethod yX9_init ∈ wsL_law := tb_2 214 rfl rfl
theorem co_X9_init : Cond.code yX9_init cX9_init 1 none ∈ wsL_law := tb_2 215 rfl rfl
theorem mlX9_1 : Cond.methodLink RX9 1 objectInit ∈ wsL_law := tb_2 216 rfl rfl
theorem flX9_7 : Cond.fieldLink RX9 7 "ShoutGroupsModel" "at" "[I" ∈ wsL_law := tb_2 217 rfl rfl
theorem flX9_13 : Cond.fieldLink RX9 13 "ShoutGroupsModel" "past" "[I" ∈ wsL_law := tb_2 218 rfl rfl
theorem flX9_16 : Cond.fieldLink RX9 16 "ShoutGroupsModel" "slots" "[I" ∈ wsL_law := tb_2 221 rfl rfl
theorem ac_boolean : Cond.arrayClass .boolean ∈ wsL_law := tb_3 20 rfl rfl
theorem flX9_19 : Cond.fieldLink RX9 19 "ShoutGroupsModel" "isSaved" "[Z" ∈ wsL_law := tb_2 222 rfl rfl
theorem flX9_23 : Cond.fieldLink RX9 23 "ShoutGroupsModel" "aside" "[I" ∈ wsL_law := tb_2 223 rfl rfl
theorem flX9_26 : Cond.fieldLink RX9 26 "ShoutGroupsModel" "pad" "[I" ∈ wsL_law := tb_2 224 rfl rfl
theorem flX9_29 : Cond.fieldLink RX9 29 "ShoutGroupsModel" "sort" "[I" ∈ wsL_law := tb_2 229 rfl rfl
theorem flX9_32 : Cond.fieldLink RX9 32 "ShoutGroupsModel" "numbers" "[I" ∈ wsL_law := tb_2 230 rfl rfl
theorem mlL_13 : Cond.methodLink RL 13 yX8_set ∈ wsL_law := tb_1 19 rfl rfl
theorem im_X8_set : Cond.instanceMethod yX8_set ∈ wsL_law := tb_1 20 rfl rfl
theorem se_X8_set : Cond.selects RX8 yX8_set yX8_set ∈ wsL_law := tb_1 21 rfl rfl
theorem co_X8_set : Cond.code yX8_set cX8_set 4 (some .int) ∈ wsL_law := tb_1 22 rfl rfl
theorem mlX8_46 : Cond.methodLink RX8 46 yX8_isValueOf ∈ wsL_law := tb_1 23 rfl rfl
theorem st_X8_isValueOf : Cond.static yX8_isValueOf ∈ wsL_law := tb_1 24 rfl rfl
theorem co_X8_isValueOf : Cond.code yX8_isValueOf cX8_isValueOf 2 (some .boolean) ∈ wsL_law := tb_1 25 rfl rfl
theorem flX8_218 : Cond.fieldLink RX8 218 "ShoutGroups" "LOWEST" "[I" ∈ wsL_law := tb_1 26 rfl rfl
theorem flX8_222 : Cond.fieldLink RX8 222 "ShoutGroups" "HIGHEST" "[I" ∈ wsL_law := tb_1 28 rfl rfl
theorem mlX8_54 : Cond.methodLink RX8 54 yX1_howManyInUse ∈ wsL_law := tb_1 30 rfl rfl
theorem im_X1_howManyInUse : Cond.instanceMethod yX1_howManyInUse ∈ wsL_law := tb_1 31 rfl rfl
theorem se_X1_howManyInUse : Cond.selects RX1 yX1_howManyInUse yX1_howManyInUse ∈ wsL_law := tb_1 32 rfl rfl
theorem co_X1_howManyInUse : Cond.code yX1_howManyInUse cX1_howManyInUse 3 (some .int) ∈ wsL_law := tb_1 33 rfl rfl
theorem mlX1_23 : Cond.methodLink RX1 23 yX6_at ∈ wsL_law := tb_1 34 rfl rfl
theorem im_X6_at : Cond.instanceMethod yX6_at ∈ wsL_law := tb_1 35 rfl rfl
theorem se_X6_at : Cond.selects RX6 yX6_at yX6_at ∈ wsL_law := tb_1 36 rfl rfl
theorem co_X6_at : Cond.code yX6_at cX6_at 2 (some .int) ∈ wsL_law := tb_1 37 rfl rfl
theorem mlX8_60 : Cond.methodLink RX8 60 yX2_keep ∈ wsL_law := tb_1 38 rfl rfl
theorem im_X2_keep : Cond.instanceMethod yX2_keep ∈ wsL_law := tb_1 39 rfl rfl
theorem se_X2_keep : Cond.selects RX2 yX2_keep yX2_keep ∈ wsL_law := tb_1 40 rfl rfl
theorem co_X2_keep : Cond.code yX2_keep cX2_keep 3 none ∈ wsL_law := tb_1 41 rfl rfl
theorem flX2_18 : Cond.fieldLink RX2 18 "ShoutGroups$History" "length" "I" ∈ wsL_law := tb_0 181 rfl rfl
theorem flX2_22 : Cond.fieldLink RX2 22 "ShoutGroups$History" "first" "I" ∈ wsL_law := tb_0 180 rfl rfl
theorem mlX2_25 : Cond.methodLink RX2 25 yX2_stateAt ∈ wsL_law := tb_1 42 rfl rfl
theorem im_X2_stateAt : Cond.instanceMethod yX2_stateAt ∈ wsL_law := tb_1 44 rfl rfl
theorem se_X2_stateAt : Cond.selects RX2 yX2_stateAt yX2_stateAt ∈ wsL_law := tp_1 0 rfl
theorem co_X2_stateAt : Cond.code yX2_stateAt cX2_stateAt 3 (some (.object "ShoutGroups$Library")) ∈ wsL_law := tb_1 45 rfl rfl
theorem mlX2_29 : Cond.methodLink RX2 29 yX3_copyFrom ∈ wsL_law := tb_1 46 rfl rfl
theorem im_X3_copyFrom : Cond.instanceMethod yX3_copyFrom ∈ wsL_law := tb_1 47 rfl rfl
theorem se_X3_copyFrom : Cond.selects RX3 yX3_copyFrom yX3_copyFrom ∈ wsL_law := tb_1 48 rfl rfl
theorem co_X3_copyFrom : Cond.code yX3_copyFrom cX3_copyFrom 2 none ∈ wsL_law := tb_1 49 rfl rfl
theorem mlX3_73 : Cond.methodLink RX3 73 yX6_copyFrom ∈ wsL_law := tb_1 50 rfl rfl
theorem im_X6_copyFrom : Cond.instanceMethod yX6_copyFrom ∈ wsL_law := tb_1 51 rfl rfl
theorem se_X6_copyFrom : Cond.selects RX6 yX6_copyFrom yX6_copyFrom ∈ wsL_law := tb_1 52 rfl rfl
theorem co_X6_copyFrom : Cond.code yX6_copyFrom cX6_copyFrom 2 none ∈ wsL_law := tb_1 53 rfl rfl
theorem mlX6_19 : Cond.methodLink RX6 19 Lib.Math.min.name ∈ wsL_law := tb_1 54 rfl rfl
theorem st_ib.Math.min.name : Cond.static Lib.Math.min.name ∈ wsL_law := tb_1 55 rfl rfl
theorem ini_javalangMath : Cond.initialized "java/lang/Math" ∈ wsL_law := tb_0 11 rfl rfl
theorem co_ib.Math.min.name : Cond.code Lib.Math.min.name Lib.Math.min.code 2 (some .int) ∈ wsL_law := tb_1 56 rfl rfl
theorem mlX6_25 : Cond.methodLink RX6 25 arraycopyName ∈ wsL_law := tb_1 57 rfl rfl
theorem nat_arraycopyName : Cond.native arraycopyName ∈ wsL_law := tb_1 59 rfl rfl
theorem st_rraycopyName : Cond.static arraycopyName ∈ wsL_law := tb_1 58 rfl rfl
theorem ini_javalangSystem : Cond.initialized "java/lang/System" ∈ wsL_law := tb_0 12 rfl rfl
theorem mlX3_77 : Cond.methodLink RX3 77 yX1_copyFrom ∈ wsL_law := tb_1 60 rfl rfl
theorem im_X1_copyFrom : Cond.instanceMethod yX1_copyFrom ∈ wsL_law := tb_1 61 rfl rfl
theorem se_X1_copyFrom : Cond.selects RX1 yX1_copyFrom yX1_copyFrom ∈ wsL_law := tb_1 62 rfl rfl
theorem co_X1_copyFrom : Cond.code yX1_copyFrom cX1_copyFrom 2 none ∈ wsL_law := tb_1 63 rfl rfl
theorem mlX1_57 : Cond.methodLink RX1 57 yX6_copyFrom ∈ wsL_law := tb_1 64 rfl rfl
theorem mlX3_80 : Cond.methodLink RX3 80 yX7_copyFrom ∈ wsL_law := tb_1 65 rfl rfl
theorem im_X7_copyFrom : Cond.instanceMethod yX7_copyFrom ∈ wsL_law := tb_1 66 rfl rfl
theorem se_X7_copyFrom : Cond.selects RX7 yX7_copyFrom yX7_copyFrom ∈ wsL_law := tb_1 67 rfl rfl
theorem co_X7_copyFrom : Cond.code yX7_copyFrom cX7_copyFrom 2 none ∈ wsL_law := tb_1 68 rfl rfl
theorem mlX7_53 : Cond.methodLink RX7 53 yX6_copyFrom ∈ wsL_law := tb_1 69 rfl rfl
theorem mlX3_83 : Cond.methodLink RX3 83 yX0_copyFrom ∈ wsL_law := tb_1 70 rfl rfl
theorem im_X0_copyFrom : Cond.instanceMethod yX0_copyFrom ∈ wsL_law := tb_1 71 rfl rfl
theorem se_X0_copyFrom : Cond.selects RX0 yX0_copyFrom yX0_copyFrom ∈ wsL_law := tb_1 72 rfl rfl
theorem co_X0_copyFrom : Cond.code yX0_copyFrom cX0_copyFrom 2 none ∈ wsL_law := tb_1 73 rfl rfl
theorem flX0_26 : Cond.fieldLink RX0 26 "ShoutGroups$Account" "first" "I" ∈ wsL_law := tb_0 102 rfl rfl
theorem flX0_30 : Cond.fieldLink RX0 30 "ShoutGroups$Account" "length" "I" ∈ wsL_law := tb_0 103 rfl rfl
theorem mlX0_41 : Cond.methodLink RX0 41 yX6_copyFrom ∈ wsL_law := tb_1 74 rfl rfl
theorem mlX8_68 : Cond.methodLink RX8 68 yX6_at ∈ wsL_law := tb_1 75 rfl rfl
theorem mlX8_74 : Cond.methodLink RX8 74 yX6_write ∈ wsL_law := tb_1 76 rfl rfl
theorem mlL_17 : Cond.methodLink RL 17 yX9_set ∈ wsL_law := tb_3 176 rfl rfl
theorem im_X9_set : Cond.instanceMethod yX9_set ∈ wsL_law := tb_3 177 rfl rfl
theorem se_X9_set : Cond.selects RX9 yX9_set yX9_set ∈ wsL_law := tb_3 178 rfl rfl
theorem co_X9_set : Cond.code yX9_set cX9_set 4 (some .int) ∈ wsL_law := tb_3 179 rfl rfl
theorem mlX9_35 : Cond.methodLink RX9 35 yX9_in ∈ wsL_law := tb_3 32 rfl rfl
theorem st_X9_in : Cond.static yX9_in ∈ wsL_law := tb_3 33 rfl rfl
theorem co_X9_in : Cond.code yX9_in cX9_in 3 (some .boolean) ∈ wsL_law := tb_3 34 rfl rfl
theorem mlX9_164 : Cond.methodLink RX9 164 yX9_cardsThat ∈ wsL_law := tb_3 180 rfl rfl
theorem im_X9_cardsThat : Cond.instanceMethod yX9_cardsThat ∈ wsL_law := tb_3 182 rfl rfl
theorem se_X9_cardsThat : Cond.selects RX9 yX9_cardsThat yX9_cardsThat ∈ wsL_law := tp_3 13 rfl
theorem co_X9_cardsThat : Cond.code yX9_cardsThat cX9_cardsThat 5 (some .int) ∈ wsL_law := tb_3 183 rfl rfl
theorem mlX9_75 : Cond.methodLink RX9 75 yX9_ofN ∈ wsL_law := tb_3 86 rfl rfl
theorem im_X9_ofN : Cond.instanceMethod yX9_ofN ∈ wsL_law := tb_3 88 rfl rfl
theorem se_X9_ofN : Cond.selects RX9 yX9_ofN yX9_ofN ∈ wsL_law := tp_2 11 rfl
theorem co_X9_ofN : Cond.code yX9_ofN cX9_ofN 3 (some .int) ∈ wsL_law := tb_3 89 rfl rfl
theorem mlX9_46 : Cond.methodLink RX9 46 yX9_keep ∈ wsL_law := tb_3 42 rfl rfl
theorem im_X9_keep : Cond.instanceMethod yX9_keep ∈ wsL_law := tb_3 44 rfl rfl
theorem se_X9_keep : Cond.selects RX9 yX9_keep yX9_keep ∈ wsL_law := tp_2 0 rfl
theorem co_X9_keep : Cond.code yX9_keep cX9_keep 3 none ∈ wsL_law := tb_3 45 rfl rfl
theorem flX9_39 : Cond.fieldLink RX9 39 "ShoutGroupsModel" "pastMany" "I" ∈ wsL_law := tb_2 220 rfl rfl
theorem flX9_43 : Cond.fieldLink RX9 43 "ShoutGroupsModel" "pastFirst" "I" ∈ wsL_law := tb_2 219 rfl rfl
theorem mlL_18 : Cond.methodLink RL 18 yX8_read ∈ wsL_law := tb_1 77 rfl rfl
theorem im_X8_read : Cond.instanceMethod yX8_read ∈ wsL_law := tb_1 78 rfl rfl
theorem se_X8_read : Cond.selects RX8 yX8_read yX8_read ∈ wsL_law := tb_1 79 rfl rfl
theorem co_X8_read : Cond.code yX8_read cX8_read 3 (some .int) ∈ wsL_law := tb_1 80 rfl rfl
theorem mlX8_78 : Cond.methodLink RX8 78 yX8_happen ∈ wsL_law := tb_1 81 rfl rfl
theorem im_X8_happen : Cond.instanceMethod yX8_happen ∈ wsL_law := tb_1 83 rfl rfl
theorem se_X8_happen : Cond.selects RX8 yX8_happen yX8_happen ∈ wsL_law := tp_1 1 rfl
theorem co_X8_happen : Cond.code yX8_happen cX8_happen 7 (some .int) ∈ wsL_law := tb_1 84 rfl rfl
theorem mlX8_82 : Cond.methodLink RX8 82 yX3_errorOf ∈ wsL_law := tb_1 85 rfl rfl
theorem im_X3_errorOf : Cond.instanceMethod yX3_errorOf ∈ wsL_law := tb_1 86 rfl rfl
theorem se_X3_errorOf : Cond.selects RX3 yX3_errorOf yX3_errorOf ∈ wsL_law := tb_1 87 rfl rfl
theorem co_X3_errorOf : Cond.code yX3_errorOf cX3_errorOf 5 (some .int) ∈ wsL_law := tb_1 88 rfl rfl
theorem st_X8_isReader : Cond.static yX8_isReader ∈ wsL_law := tb_1 90 rfl rfl
theorem co_X8_isReader : Cond.code yX8_isReader cX8_isReader 1 (some .boolean) ∈ wsL_law := tb_1 91 rfl rfl
theorem st_X8_isNote : Cond.static yX8_isNote ∈ wsL_law := tb_1 93 rfl rfl
theorem co_X8_isNote : Cond.code yX8_isNote cX8_isNote 1 (some .boolean) ∈ wsL_law := tb_1 94 rfl rfl
theorem mlX3_93 : Cond.methodLink RX3 93 yX7_holds ∈ wsL_law := tb_1 95 rfl rfl
theorem im_X7_holds : Cond.instanceMethod yX7_holds ∈ wsL_law := tb_1 96 rfl rfl
theorem se_X7_holds : Cond.selects RX7 yX7_holds yX7_holds ∈ wsL_law := tb_1 97 rfl rfl
theorem co_X7_holds : Cond.code yX7_holds cX7_holds 3 (some .boolean) ∈ wsL_law := tb_1 98 rfl rfl
theorem mlX7_32 : Cond.methodLink RX7 32 yX6_at ∈ wsL_law := tb_1 99 rfl rfl
theorem st_X8_isIn : Cond.static yX8_isIn ∈ wsL_law := tb_1 101 rfl rfl
theorem co_X8_isIn : Cond.code yX8_isIn cX8_isIn 2 (some .boolean) ∈ wsL_law := tb_1 102 rfl rfl
theorem mlX3_100 : Cond.methodLink RX3 100 yX6_at ∈ wsL_law := tb_1 103 rfl rfl
theorem mlX8_90 : Cond.methodLink RX8 90 yX0_append ∈ wsL_law := tb_1 104 rfl rfl
theorem im_X0_append : Cond.instanceMethod yX0_append ∈ wsL_law := tb_1 105 rfl rfl
theorem se_X0_append : Cond.selects RX0 yX0_append yX0_append ∈ wsL_law := tb_1 106 rfl rfl
theorem co_X0_append : Cond.code yX0_append cX0_append 5 none ∈ wsL_law := tb_1 107 rfl rfl
theorem mlX0_33 : Cond.methodLink RX0 33 yX0_cellOf ∈ wsL_law := tb_1 108 rfl rfl
theorem im_X0_cellOf : Cond.instanceMethod yX0_cellOf ∈ wsL_law := tb_1 109 rfl rfl
theorem se_X0_cellOf : Cond.selects RX0 yX0_cellOf yX0_cellOf ∈ wsL_law := tb_1 110 rfl rfl
theorem co_X0_cellOf : Cond.code yX0_cellOf cX0_cellOf 2 (some .int) ∈ wsL_law := tb_1 111 rfl rfl
theorem mlX0_37 : Cond.methodLink RX0 37 yX6_write ∈ wsL_law := tb_1 112 rfl rfl
theorem mlX8_96 : Cond.methodLink RX8 96 yX3_lend ∈ wsL_law := tb_1 113 rfl rfl
theorem im_X3_lend : Cond.instanceMethod yX3_lend ∈ wsL_law := tb_1 114 rfl rfl
theorem se_X3_lend : Cond.selects RX3 yX3_lend yX3_lend ∈ wsL_law := tb_1 115 rfl rfl
theorem co_X3_lend : Cond.code yX3_lend cX3_lend 7 (some .int) ∈ wsL_law := tb_1 116 rfl rfl
theorem mlX3_104 : Cond.methodLink RX3 104 yX7_placeOf ∈ wsL_law := tb_1 117 rfl rfl
theorem im_X7_placeOf : Cond.instanceMethod yX7_placeOf ∈ wsL_law := tb_1 118 rfl rfl
theorem se_X7_placeOf : Cond.selects RX7 yX7_placeOf yX7_placeOf ∈ wsL_law := tb_1 119 rfl rfl
theorem co_X7_placeOf : Cond.code yX7_placeOf cX7_placeOf 6 (some .int) ∈ wsL_law := tb_1 120 rfl rfl
theorem mlX3_108 : Cond.methodLink RX3 108 yX3_noteUse ∈ wsL_law := tb_1 121 rfl rfl
theorem im_X3_noteUse : Cond.instanceMethod yX3_noteUse ∈ wsL_law := tb_1 123 rfl rfl
theorem se_X3_noteUse : Cond.selects RX3 yX3_noteUse yX3_noteUse ∈ wsL_law := tp_1 2 rfl
theorem co_X3_noteUse : Cond.code yX3_noteUse cX3_noteUse 3 none ∈ wsL_law := tb_1 124 rfl rfl
theorem mlX3_135 : Cond.methodLink RX3 135 yX6_add ∈ wsL_law := tb_1 125 rfl rfl
theorem im_X6_add : Cond.instanceMethod yX6_add ∈ wsL_law := tb_1 126 rfl rfl
theorem se_X6_add : Cond.selects RX6 yX6_add yX6_add ∈ wsL_law := tb_1 127 rfl rfl
theorem co_X6_add : Cond.code yX6_add cX6_add 3 none ∈ wsL_law := tb_1 128 rfl rfl
theorem mlX3_112 : Cond.methodLink RX3 112 yX7_valueAt ∈ wsL_law := tb_1 129 rfl rfl
theorem im_X7_valueAt : Cond.instanceMethod yX7_valueAt ∈ wsL_law := tb_1 130 rfl rfl
theorem se_X7_valueAt : Cond.selects RX7 yX7_valueAt yX7_valueAt ∈ wsL_law := tb_1 131 rfl rfl
theorem co_X7_valueAt : Cond.code yX7_valueAt cX7_valueAt 3 (some .int) ∈ wsL_law := tb_1 132 rfl rfl
theorem mlX3_115 : Cond.methodLink RX3 115 yX7_isChangedAt ∈ wsL_law := tb_1 133 rfl rfl
theorem im_X7_isChangedAt : Cond.instanceMethod yX7_isChangedAt ∈ wsL_law := tb_1 134 rfl rfl
theorem se_X7_isChangedAt : Cond.selects RX7 yX7_isChangedAt yX7_isChangedAt ∈ wsL_law := tb_1 135 rfl rfl
theorem co_X7_isChangedAt : Cond.code yX7_isChangedAt cX7_isChangedAt 3 (some .boolean) ∈ wsL_law := tb_1 136 rfl rfl
theorem mlX3_118 : Cond.methodLink RX3 118 yX7_remove ∈ wsL_law := tb_1 137 rfl rfl
theorem im_X7_remove : Cond.instanceMethod yX7_remove ∈ wsL_law := tb_1 138 rfl rfl
theorem se_X7_remove : Cond.selects RX7 yX7_remove yX7_remove ∈ wsL_law := tb_1 139 rfl rfl
theorem co_X7_remove : Cond.code yX7_remove cX7_remove 8 none ∈ wsL_law := tb_1 140 rfl rfl
theorem st_X8_only : Cond.static yX8_only ∈ wsL_law := tb_1 142 rfl rfl
theorem co_X8_only : Cond.code yX8_only cX8_only 1 (some .int) ∈ wsL_law := tb_1 143 rfl rfl
theorem mlX7_40 : Cond.methodLink RX7 40 yX6_write ∈ wsL_law := tb_1 144 rfl rfl
theorem mlX3_121 : Cond.methodLink RX3 121 yX7_lay ∈ wsL_law := tb_1 145 rfl rfl
theorem im_X7_lay : Cond.instanceMethod yX7_lay ∈ wsL_law := tb_1 146 rfl rfl
theorem se_X7_lay : Cond.selects RX7 yX7_lay yX7_lay ∈ wsL_law := tb_1 147 rfl rfl
theorem co_X7_lay : Cond.code yX7_lay cX7_lay 7 none ∈ wsL_law := tb_1 148 rfl rfl
theorem mlX3_125 : Cond.methodLink RX3 125 yX3_callBack ∈ wsL_law := tb_1 149 rfl rfl
theorem im_X3_callBack : Cond.instanceMethod yX3_callBack ∈ wsL_law := tb_1 151 rfl rfl
theorem se_X3_callBack : Cond.selects RX3 yX3_callBack yX3_callBack ∈ wsL_law := tp_1 3 rfl
theorem co_X3_callBack : Cond.code yX3_callBack cX3_callBack 7 (some .int) ∈ wsL_law := tb_1 152 rfl rfl
theorem mlX3_154 : Cond.methodLink RX3 154 yX3_called ∈ wsL_law := tb_1 153 rfl rfl
theorem im_X3_called : Cond.instanceMethod yX3_called ∈ wsL_law := tb_1 154 rfl rfl
theorem se_X3_called : Cond.selects RX3 yX3_called yX3_called ∈ wsL_law := tb_1 155 rfl rfl
theorem co_X3_called : Cond.code yX3_called cX3_called 2 (some .int) ∈ wsL_law := tb_1 156 rfl rfl
theorem mlX3_177 : Cond.methodLink RX3 177 yX1_called ∈ wsL_law := tb_1 157 rfl rfl
theorem im_X1_called : Cond.instanceMethod yX1_called ∈ wsL_law := tb_1 158 rfl rfl
theorem se_X1_called : Cond.selects RX1 yX1_called yX1_called ∈ wsL_law := tb_1 159 rfl rfl
theorem co_X1_called : Cond.code yX1_called cX1_called 6 (some .int) ∈ wsL_law := tb_1 160 rfl rfl
theorem st_X8_groupOf : Cond.static yX8_groupOf ∈ wsL_law := tb_1 162 rfl rfl
theorem co_X8_groupOf : Cond.code yX8_groupOf cX8_groupOf 2 (some .int) ∈ wsL_law := tb_1 163 rfl rfl
theorem mlX3_160 : Cond.methodLink RX3 160 yX3_takeAway ∈ wsL_law := tb_1 167 rfl rfl
theorem im_X3_takeAway : Cond.instanceMethod yX3_takeAway ∈ wsL_law := tb_1 169 rfl rfl
theorem se_X3_takeAway : Cond.selects RX3 yX3_takeAway yX3_takeAway ∈ wsL_law := tp_1 4 rfl
theorem co_X3_takeAway : Cond.code yX3_takeAway cX3_takeAway 4 none ∈ wsL_law := tb_1 170 rfl rfl
theorem mlX3_128 : Cond.methodLink RX3 128 yX1_become ∈ wsL_law := tb_1 171 rfl rfl
theorem im_X1_become : Cond.instanceMethod yX1_become ∈ wsL_law := tb_1 172 rfl rfl
theorem se_X1_become : Cond.selects RX1 yX1_become yX1_become ∈ wsL_law := tb_1 173 rfl rfl
theorem co_X1_become : Cond.code yX1_become cX1_become 4 none ∈ wsL_law := tb_1 174 rfl rfl
theorem mlX1_38 : Cond.methodLink RX1 38 yX6_write ∈ wsL_law := tb_1 175 rfl rfl
theorem mlX3_132 : Cond.methodLink RX3 132 yX3_makeRoom ∈ wsL_law := tb_1 176 rfl rfl
theorem im_X3_makeRoom : Cond.instanceMethod yX3_makeRoom ∈ wsL_law := tb_1 178 rfl rfl
theorem se_X3_makeRoom : Cond.selects RX3 yX3_makeRoom yX3_makeRoom ∈ wsL_law := tp_1 5 rfl
theorem co_X3_makeRoom : Cond.code yX3_makeRoom cX3_makeRoom 4 none ∈ wsL_law := tb_1 179 rfl rfl
theorem mlX3_163 : Cond.methodLink RX3 163 yX3_copiesInTheWay ∈ wsL_law := tb_1 180 rfl rfl
theorem im_X3_copiesInTheWay : Cond.instanceMethod yX3_copiesInTheWay ∈ wsL_law := tb_1 182 rfl rfl
theorem se_X3_copiesInTheWay : Cond.selects RX3 yX3_copiesInTheWay yX3_copiesInTheWay ∈ wsL_law := tp_1 6 rfl
theorem co_X3_copiesInTheWay : Cond.code yX3_copiesInTheWay cX3_copiesInTheWay 2 (some .int) ∈ wsL_law := tb_1 183 rfl rfl
theorem mlX3_172 : Cond.methodLink RX3 172 Lib.Math.max.name ∈ wsL_law := tb_1 184 rfl rfl
theorem st_ib.Math.max.name : Cond.static Lib.Math.max.name ∈ wsL_law := tb_1 185 rfl rfl
theorem co_ib.Math.max.name : Cond.code Lib.Math.max.name Lib.Math.max.code 2 (some .int) ∈ wsL_law := tb_1 186 rfl rfl
theorem mlX3_166 : Cond.methodLink RX3 166 yX3_giveBack ∈ wsL_law := tb_1 187 rfl rfl
theorem im_X3_giveBack : Cond.instanceMethod yX3_giveBack ∈ wsL_law := tb_1 188 rfl rfl
theorem se_X3_giveBack : Cond.selects RX3 yX3_giveBack yX3_giveBack ∈ wsL_law := tb_1 189 rfl rfl
theorem co_X3_giveBack : Cond.code yX3_giveBack cX3_giveBack 5 (some .int) ∈ wsL_law := tb_1 190 rfl rfl
theorem mlX3_148 : Cond.methodLink RX3 148 yX7_noteAt ∈ wsL_law := tb_1 191 rfl rfl
theorem im_X7_noteAt : Cond.instanceMethod yX7_noteAt ∈ wsL_law := tb_1 192 rfl rfl
theorem se_X7_noteAt : Cond.selects RX7 yX7_noteAt yX7_noteAt ∈ wsL_law := tb_1 193 rfl rfl
theorem co_X7_noteAt : Cond.code yX7_noteAt cX7_noteAt 3 (some .int) ∈ wsL_law := tb_1 194 rfl rfl
theorem mlX3_151 : Cond.methodLink RX3 151 yX1_strike ∈ wsL_law := tb_1 195 rfl rfl
theorem im_X1_strike : Cond.instanceMethod yX1_strike ∈ wsL_law := tb_1 196 rfl rfl
theorem se_X1_strike : Cond.selects RX1 yX1_strike yX1_strike ∈ wsL_law := tb_1 197 rfl rfl
theorem co_X1_strike : Cond.code yX1_strike cX1_strike 4 none ∈ wsL_law := tb_1 198 rfl rfl
theorem mlX3_138 : Cond.methodLink RX3 138 yX1_name ∈ wsL_law := tb_1 199 rfl rfl
theorem im_X1_name : Cond.instanceMethod yX1_name ∈ wsL_law := tb_1 200 rfl rfl
theorem se_X1_name : Cond.selects RX1 yX1_name yX1_name ∈ wsL_law := tb_1 201 rfl rfl
theorem co_X1_name : Cond.code yX1_name cX1_name 6 none ∈ wsL_law := tb_1 202 rfl rfl
theorem mlX1_42 : Cond.methodLink RX1 42 yJ6_bitCount_0f7a4 ∈ wsL_law := tb_1 203 rfl rfl
theorem st_J6_bitCount_0f7a4 : Cond.static yJ6_bitCount_0f7a4 ∈ wsL_law := tb_1 204 rfl rfl
theorem ini_J6 : Cond.initialized RJ6 ∈ wsL_law := tb_0 13 rfl rfl
theorem co_J6_bitCount_0f7a4 : Cond.code yJ6_bitCount_0f7a4 cJ6_bitCount_0f7a4 1 (some .int) ∈ wsL_law := tb_1 205 rfl rfl
theorem kcJ6_265 : Cond.constant RJ6 265 (1431655765) ∈ wsL_law := tb_1 206 rfl rfl
theorem kcJ6_266 : Cond.constant RJ6 266 (858993459) ∈ wsL_law := tb_1 207 rfl rfl
theorem kcJ6_267 : Cond.constant RJ6 267 (252645135) ∈ wsL_law := tb_1 208 rfl rfl
theorem mlX1_47 : Cond.methodLink RX1 47 yX1_become ∈ wsL_law := tb_1 209 rfl rfl
theorem mlX1_51 : Cond.methodLink RX1 51 yX1_groupsOf ∈ wsL_law := tb_1 210 rfl rfl
theorem st_X1_groupsOf : Cond.static yX1_groupsOf ∈ wsL_law := tb_1 211 rfl rfl
theorem co_X1_groupsOf : Cond.code yX1_groupsOf cX1_groupsOf 4 (some .int) ∈ wsL_law := tb_1 212 rfl rfl
theorem mlX8_100 : Cond.methodLink RX8 100 yX3_rewrite ∈ wsL_law := tb_1 213 rfl rfl
theorem im_X3_rewrite : Cond.instanceMethod yX3_rewrite ∈ wsL_law := tb_1 214 rfl rfl
theorem se_X3_rewrite : Cond.selects RX3 yX3_rewrite yX3_rewrite ∈ wsL_law := tb_1 215 rfl rfl
theorem co_X3_rewrite : Cond.code yX3_rewrite cX3_rewrite 6 (some .int) ∈ wsL_law := tb_1 216 rfl rfl
theorem mlX3_142 : Cond.methodLink RX3 142 yX1_isOwnedBy ∈ wsL_law := tb_1 217 rfl rfl
theorem im_X1_isOwnedBy : Cond.instanceMethod yX1_isOwnedBy ∈ wsL_law := tb_1 218 rfl rfl
theorem se_X1_isOwnedBy : Cond.selects RX1 yX1_isOwnedBy yX1_isOwnedBy ∈ wsL_law := tb_1 219 rfl rfl
theorem co_X1_isOwnedBy : Cond.code yX1_isOwnedBy cX1_isOwnedBy 3 (some .boolean) ∈ wsL_law := tb_1 220 rfl rfl
theorem mlX8_108 : Cond.methodLink RX8 108 yX7_placeOf ∈ wsL_law := tb_1 222 rfl rfl
theorem mlX8_113 : Cond.methodLink RX8 113 yX3_giveBack ∈ wsL_law := tb_1 223 rfl rfl
theorem mlX8_116 : Cond.methodLink RX8 116 yX3_callIn ∈ wsL_law := tb_1 224 rfl rfl
theorem im_X3_callIn : Cond.instanceMethod yX3_callIn ∈ wsL_law := tb_1 225 rfl rfl
theorem se_X3_callIn : Cond.selects RX3 yX3_callIn yX3_callIn ∈ wsL_law := tb_1 226 rfl rfl
theorem co_X3_callIn : Cond.code yX3_callIn cX3_callIn 3 (some .int) ∈ wsL_law := tb_1 227 rfl rfl
theorem mlL_21 : Cond.methodLink RL 21 yX9_read ∈ wsL_law := tb_3 21 rfl rfl
theorem im_X9_read : Cond.instanceMethod yX9_read ∈ wsL_law := tb_3 22 rfl rfl
theorem se_X9_read : Cond.selects RX9 yX9_read yX9_read ∈ wsL_law := tb_3 23 rfl rfl
theorem co_X9_read : Cond.code yX9_read cX9_read 3 (some .int) ∈ wsL_law := tb_3 24 rfl rfl
theorem mlX9_146 : Cond.methodLink RX9 146 yX9_tryRead ∈ wsL_law := tb_3 25 rfl rfl
theorem im_X9_tryRead : Cond.instanceMethod yX9_tryRead ∈ wsL_law := tb_3 27 rfl rfl
theorem se_X9_tryRead : Cond.selects RX9 yX9_tryRead yX9_tryRead ∈ wsL_law := tp_1 14 rfl
theorem co_X9_tryRead : Cond.code yX9_tryRead cX9_tryRead 4 (some .int) ∈ wsL_law := tb_3 28 rfl rfl
theorem mlX9_129 : Cond.methodLink RX9 129 yX9_isReader ∈ wsL_law := tb_3 29 rfl rfl
theorem st_X9_isReader : Cond.static yX9_isReader ∈ wsL_law := tb_3 30 rfl rfl
theorem co_X9_isReader : Cond.code yX9_isReader cX9_isReader 1 (some .boolean) ∈ wsL_law := tb_3 31 rfl rfl
theorem mlX9_133 : Cond.methodLink RX9 133 yX9_isNote ∈ wsL_law := tb_3 35 rfl rfl
theorem st_X9_isNote : Cond.static yX9_isNote ∈ wsL_law := tb_3 36 rfl rfl
theorem co_X9_isNote : Cond.code yX9_isNote cX9_isNote 1 (some .boolean) ∈ wsL_law := tb_3 37 rfl rfl
theorem mlX9_136 : Cond.methodLink RX9 136 yX9_keepIf ∈ wsL_law := tb_3 38 rfl rfl
theorem im_X9_keepIf : Cond.instanceMethod yX9_keepIf ∈ wsL_law := tb_3 40 rfl rfl
theorem se_X9_keepIf : Cond.selects RX9 yX9_keepIf yX9_keepIf ∈ wsL_law := tp_1 15 rfl
theorem co_X9_keepIf : Cond.code yX9_keepIf cX9_keepIf 2 none ∈ wsL_law := tb_3 41 rfl rfl
theorem mlX9_140 : Cond.methodLink RX9 140 yX9_enter ∈ wsL_law := tb_3 46 rfl rfl
theorem im_X9_enter : Cond.instanceMethod yX9_enter ∈ wsL_law := tb_3 48 rfl rfl
theorem se_X9_enter : Cond.selects RX9 yX9_enter yX9_enter ∈ wsL_law := tp_2 1 rfl
theorem co_X9_enter : Cond.code yX9_enter cX9_enter 5 none ∈ wsL_law := tb_3 49 rfl rfl
theorem mlX9_143 : Cond.methodLink RX9 143 yX9_reads ∈ wsL_law := tb_3 50 rfl rfl
theorem im_X9_reads : Cond.instanceMethod yX9_reads ∈ wsL_law := tb_3 52 rfl rfl
theorem se_X9_reads : Cond.selects RX9 yX9_reads yX9_reads ∈ wsL_law := tp_2 2 rfl
theorem co_X9_reads : Cond.code yX9_reads cX9_reads 4 (some .int) ∈ wsL_law := tb_3 53 rfl rfl
theorem mlX9_57 : Cond.methodLink RX9 57 yX9_moreR ∈ wsL_law := tb_3 54 rfl rfl
theorem im_X9_moreR : Cond.instanceMethod yX9_moreR ∈ wsL_law := tb_3 56 rfl rfl
theorem se_X9_moreR : Cond.selects RX9 yX9_moreR yX9_moreR ∈ wsL_law := tp_2 3 rfl
theorem co_X9_moreR : Cond.code yX9_moreR cX9_moreR 4 none ∈ wsL_law := tb_3 57 rfl rfl
theorem mlX9_95 : Cond.methodLink RX9 95 yX9_placeOf ∈ wsL_law := tb_3 58 rfl rfl
theorem im_X9_placeOf : Cond.instanceMethod yX9_placeOf ∈ wsL_law := tb_3 60 rfl rfl
theorem se_X9_placeOf : Cond.selects RX9 yX9_placeOf yX9_placeOf ∈ wsL_law := tp_2 4 rfl
theorem co_X9_placeOf : Cond.code yX9_placeOf cX9_placeOf 4 (some .int) ∈ wsL_law := tb_3 61 rfl rfl
theorem mlX9_49 : Cond.methodLink RX9 49 yX9_ofR ∈ wsL_law := tb_3 62 rfl rfl
theorem im_X9_ofR : Cond.instanceMethod yX9_ofR ∈ wsL_law := tb_3 64 rfl rfl
theorem se_X9_ofR : Cond.selects RX9 yX9_ofR yX9_ofR ∈ wsL_law := tp_2 5 rfl
theorem co_X9_ofR : Cond.code yX9_ofR cX9_ofR 3 (some .int) ∈ wsL_law := tb_3 65 rfl rfl
theorem mlX9_53 : Cond.methodLink RX9 53 yX9_ofC ∈ wsL_law := tb_3 66 rfl rfl
theorem im_X9_ofC : Cond.instanceMethod yX9_ofC ∈ wsL_law := tb_3 68 rfl rfl
theorem se_X9_ofC : Cond.selects RX9 yX9_ofC yX9_ofC ∈ wsL_law := tp_2 6 rfl
theorem co_X9_ofC : Cond.code yX9_ofC cX9_ofC 4 (some .int) ∈ wsL_law := tb_3 69 rfl rfl
theorem mlX9_117 : Cond.methodLink RX9 117 yX9_use ∈ wsL_law := tb_3 70 rfl rfl
theorem im_X9_use : Cond.instanceMethod yX9_use ∈ wsL_law := tb_3 72 rfl rfl
theorem se_X9_use : Cond.selects RX9 yX9_use yX9_use ∈ wsL_law := tp_2 7 rfl
theorem co_X9_use : Cond.code yX9_use cX9_use 6 none ∈ wsL_law := tb_3 73 rfl rfl
theorem mlX9_65 : Cond.methodLink RX9 65 yX9_takeOff ∈ wsL_law := tb_3 74 rfl rfl
theorem im_X9_takeOff : Cond.instanceMethod yX9_takeOff ∈ wsL_law := tb_3 76 rfl rfl
theorem se_X9_takeOff : Cond.selects RX9 yX9_takeOff yX9_takeOff ∈ wsL_law := tp_2 8 rfl
theorem co_X9_takeOff : Cond.code yX9_takeOff cX9_takeOff 4 none ∈ wsL_law := tb_3 77 rfl rfl
theorem mlX9_69 : Cond.methodLink RX9 69 yX9_layOn ∈ wsL_law := tb_3 78 rfl rfl
theorem im_X9_layOn : Cond.instanceMethod yX9_layOn ∈ wsL_law := tb_3 80 rfl rfl
theorem se_X9_layOn : Cond.selects RX9 yX9_layOn yX9_layOn ∈ wsL_law := tp_2 9 rfl
theorem co_X9_layOn : Cond.code yX9_layOn cX9_layOn 6 none ∈ wsL_law := tb_3 81 rfl rfl
theorem mlX9_61 : Cond.methodLink RX9 61 yX9_layC ∈ wsL_law := tb_3 82 rfl rfl
theorem im_X9_layC : Cond.instanceMethod yX9_layC ∈ wsL_law := tb_3 84 rfl rfl
theorem se_X9_layC : Cond.selects RX9 yX9_layC yX9_layC ∈ wsL_law := tp_2 10 rfl
theorem co_X9_layC : Cond.code yX9_layC cX9_layC 5 none ∈ wsL_law := tb_3 85 rfl rfl
theorem mlX9_120 : Cond.methodLink RX9 120 yX9_callBackBut ∈ wsL_law := tb_3 90 rfl rfl
theorem im_X9_callBackBut : Cond.instanceMethod yX9_callBackBut ∈ wsL_law := tb_3 92 rfl rfl
theorem se_X9_callBackBut : Cond.selects RX9 yX9_callBackBut yX9_callBackBut ∈ wsL_law := tp_2 12 rfl
theorem co_X9_callBackBut : Cond.code yX9_callBackBut cX9_callBackBut 6 none ∈ wsL_law := tb_3 93 rfl rfl
theorem mlX9_101 : Cond.methodLink RX9 101 yX9_called ∈ wsL_law := tb_3 94 rfl rfl
theorem im_X9_called : Cond.instanceMethod yX9_called ∈ wsL_law := tb_3 96 rfl rfl
theorem se_X9_called : Cond.selects RX9 yX9_called yX9_called ∈ wsL_law := tp_2 13 rfl
theorem co_X9_called : Cond.code yX9_called cX9_called 5 (some .int) ∈ wsL_law := tb_3 97 rfl rfl
theorem mlX9_78 : Cond.methodLink RX9 78 yX9_group ∈ wsL_law := tb_3 98 rfl rfl
theorem im_X9_group : Cond.instanceMethod yX9_group ∈ wsL_law := tb_3 100 rfl rfl
theorem se_X9_group : Cond.selects RX9 yX9_group yX9_group ∈ wsL_law := tp_2 14 rfl
theorem co_X9_group : Cond.code yX9_group cX9_group 2 (some .int) ∈ wsL_law := tb_3 101 rfl rfl
theorem mlX9_82 : Cond.methodLink RX9 82 yX9_has ∈ wsL_law := tb_3 102 rfl rfl
theorem st_X9_has : Cond.static yX9_has ∈ wsL_law := tb_3 103 rfl rfl
theorem co_X9_has : Cond.code yX9_has cX9_has 2 (some .boolean) ∈ wsL_law := tb_3 104 rfl rfl
theorem mlX9_104 : Cond.methodLink RX9 104 yX9_callBack ∈ wsL_law := tb_3 105 rfl rfl
theorem im_X9_callBack : Cond.instanceMethod yX9_callBack ∈ wsL_law := tb_3 107 rfl rfl
theorem se_X9_callBack : Cond.selects RX9 yX9_callBack yX9_callBack ∈ wsL_law := tp_2 15 rfl
theorem co_X9_callBack : Cond.code yX9_callBack cX9_callBack 4 none ∈ wsL_law := tb_3 108 rfl rfl
theorem mlX9_98 : Cond.methodLink RX9 98 yX9_giveBack ∈ wsL_law := tb_3 109 rfl rfl
theorem im_X9_giveBack : Cond.instanceMethod yX9_giveBack ∈ wsL_law := tb_3 111 rfl rfl
theorem se_X9_giveBack : Cond.selects RX9 yX9_giveBack yX9_giveBack ∈ wsL_law := tp_3 0 rfl
theorem co_X9_giveBack : Cond.code yX9_giveBack cX9_giveBack 3 none ∈ wsL_law := tb_3 112 rfl rfl
theorem mlX9_72 : Cond.methodLink RX9 72 yX9_layN ∈ wsL_law := tb_3 113 rfl rfl
theorem im_X9_layN : Cond.instanceMethod yX9_layN ∈ wsL_law := tb_3 115 rfl rfl
theorem se_X9_layN : Cond.selects RX9 yX9_layN yX9_layN ∈ wsL_law := tp_3 1 rfl
theorem co_X9_layN : Cond.code yX9_layN cX9_layN 4 none ∈ wsL_law := tb_3 116 rfl rfl
theorem mlX9_86 : Cond.methodLink RX9 86 yX9_layCard ∈ wsL_law := tb_3 117 rfl rfl
theorem im_X9_layCard : Cond.instanceMethod yX9_layCard ∈ wsL_law := tb_3 119 rfl rfl
theorem se_X9_layCard : Cond.selects RX9 yX9_layCard yX9_layCard ∈ wsL_law := tp_3 2 rfl
theorem co_X9_layCard : Cond.code yX9_layCard cX9_layCard 4 none ∈ wsL_law := tb_3 120 rfl rfl
theorem mlX9_123 : Cond.methodLink RX9 123 yX9_ask ∈ wsL_law := tb_3 121 rfl rfl
theorem im_X9_ask : Cond.instanceMethod yX9_ask ∈ wsL_law := tb_3 123 rfl rfl
theorem se_X9_ask : Cond.selects RX9 yX9_ask yX9_ask ∈ wsL_law := tp_3 3 rfl
theorem co_X9_ask : Cond.code yX9_ask cX9_ask 3 none ∈ wsL_law := tb_3 124 rfl rfl
theorem mlX9_113 : Cond.methodLink RX9 113 yX9_makeRoom ∈ wsL_law := tb_3 125 rfl rfl
theorem im_X9_makeRoom : Cond.instanceMethod yX9_makeRoom ∈ wsL_law := tb_3 127 rfl rfl
theorem se_X9_makeRoom : Cond.selects RX9 yX9_makeRoom yX9_makeRoom ∈ wsL_law := tp_3 4 rfl
theorem co_X9_makeRoom : Cond.code yX9_makeRoom cX9_makeRoom 2 none ∈ wsL_law := tb_3 128 rfl rfl
theorem mlX9_110 : Cond.methodLink RX9 110 yX9_returned ∈ wsL_law := tb_3 129 rfl rfl
theorem im_X9_returned : Cond.instanceMethod yX9_returned ∈ wsL_law := tb_3 131 rfl rfl
theorem se_X9_returned : Cond.selects RX9 yX9_returned yX9_returned ∈ wsL_law := tp_3 5 rfl
theorem co_X9_returned : Cond.code yX9_returned cX9_returned 5 (some .int) ∈ wsL_law := tb_3 132 rfl rfl
theorem mlX9_107 : Cond.methodLink RX9 107 yX9_strike ∈ wsL_law := tb_3 133 rfl rfl
theorem im_X9_strike : Cond.instanceMethod yX9_strike ∈ wsL_law := tb_3 135 rfl rfl
theorem se_X9_strike : Cond.selects RX9 yX9_strike yX9_strike ∈ wsL_law := tp_3 6 rfl
theorem co_X9_strike : Cond.code yX9_strike cX9_strike 4 none ∈ wsL_law := tb_3 136 rfl rfl
theorem mlX9_126 : Cond.methodLink RX9 126 yX9_writeOn ∈ wsL_law := tb_3 137 rfl rfl
theorem im_X9_writeOn : Cond.instanceMethod yX9_writeOn ∈ wsL_law := tb_3 139 rfl rfl
theorem se_X9_writeOn : Cond.selects RX9 yX9_writeOn yX9_writeOn ∈ wsL_law := tp_3 7 rfl
theorem co_X9_writeOn : Cond.code yX9_writeOn cX9_writeOn 5 none ∈ wsL_law := tb_3 140 rfl rfl
theorem mlX9_89 : Cond.methodLink RX9 89 yX9_many ∈ wsL_law := tb_3 141 rfl rfl
theorem st_X9_many : Cond.static yX9_many ∈ wsL_law := tb_3 142 rfl rfl
theorem co_X9_many : Cond.code yX9_many cX9_many 3 (some .int) ∈ wsL_law := tb_3 143 rfl rfl
theorem mlX9_92 : Cond.methodLink RX9 92 yX9_groupsOf ∈ wsL_law := tb_3 144 rfl rfl
theorem im_X9_groupsOf : Cond.instanceMethod yX9_groupsOf ∈ wsL_law := tb_3 146 rfl rfl
theorem se_X9_groupsOf : Cond.selects RX9 yX9_groupsOf yX9_groupsOf ∈ wsL_law := tp_3 8 rfl
theorem co_X9_groupsOf : Cond.code yX9_groupsOf cX9_groupsOf 4 (some .int) ∈ wsL_law := tb_3 147 rfl rfl
theorem mlL_22 : Cond.methodLink RL 22 yX8_change ∈ wsL_law := tb_1 228 rfl rfl
theorem im_X8_change : Cond.instanceMethod yX8_change ∈ wsL_law := tb_1 229 rfl rfl
theorem se_X8_change : Cond.selects RX8 yX8_change yX8_change ∈ wsL_law := tb_1 230 rfl rfl
theorem co_X8_change : Cond.code yX8_change cX8_change 4 (some .int) ∈ wsL_law := tb_1 231 rfl rfl
theorem mlL_26 : Cond.methodLink RL 26 yX9_change ∈ wsL_law := tb_3 148 rfl rfl
theorem im_X9_change : Cond.instanceMethod yX9_change ∈ wsL_law := tb_3 149 rfl rfl
theorem se_X9_change : Cond.selects RX9 yX9_change yX9_change ∈ wsL_law := tb_3 150 rfl rfl
theorem co_X9_change : Cond.code yX9_change cX9_change 4 (some .int) ∈ wsL_law := tb_3 151 rfl rfl
theorem mlX9_153 : Cond.methodLink RX9 153 yX9_tryChange ∈ wsL_law := tb_3 152 rfl rfl
theorem im_X9_tryChange : Cond.instanceMethod yX9_tryChange ∈ wsL_law := tb_3 154 rfl rfl
theorem se_X9_tryChange : Cond.selects RX9 yX9_tryChange yX9_tryChange ∈ wsL_law := tp_3 9 rfl
theorem co_X9_tryChange : Cond.code yX9_tryChange cX9_tryChange 5 (some .int) ∈ wsL_law := tb_3 155 rfl rfl
theorem mlX9_150 : Cond.methodLink RX9 150 yX9_changes ∈ wsL_law := tb_3 156 rfl rfl
theorem im_X9_changes : Cond.instanceMethod yX9_changes ∈ wsL_law := tb_3 158 rfl rfl
theorem se_X9_changes : Cond.selects RX9 yX9_changes yX9_changes ∈ wsL_law := tp_3 10 rfl
theorem co_X9_changes : Cond.code yX9_changes cX9_changes 6 (some .int) ∈ wsL_law := tb_3 159 rfl rfl
theorem mlL_27 : Cond.methodLink RL 27 yX8_putBack ∈ wsL_law := tb_1 232 rfl rfl
theorem im_X8_putBack : Cond.instanceMethod yX8_putBack ∈ wsL_law := tb_1 233 rfl rfl
theorem se_X8_putBack : Cond.selects RX8 yX8_putBack yX8_putBack ∈ wsL_law := tb_1 234 rfl rfl
theorem co_X8_putBack : Cond.code yX8_putBack cX8_putBack 3 (some .int) ∈ wsL_law := tb_1 235 rfl rfl
theorem mlL_30 : Cond.methodLink RL 30 yX9_putBack ∈ wsL_law := tb_3 160 rfl rfl
theorem im_X9_putBack : Cond.instanceMethod yX9_putBack ∈ wsL_law := tb_3 161 rfl rfl
theorem se_X9_putBack : Cond.selects RX9 yX9_putBack yX9_putBack ∈ wsL_law := tb_3 162 rfl rfl
theorem co_X9_putBack : Cond.code yX9_putBack cX9_putBack 3 (some .int) ∈ wsL_law := tb_3 163 rfl rfl
theorem mlX9_157 : Cond.methodLink RX9 157 yX9_tryPutBack ∈ wsL_law := tb_3 164 rfl rfl
theorem im_X9_tryPutBack : Cond.instanceMethod yX9_tryPutBack ∈ wsL_law := tb_3 166 rfl rfl
theorem se_X9_tryPutBack : Cond.selects RX9 yX9_tryPutBack yX9_tryPutBack ∈ wsL_law := tp_3 11 rfl
theorem co_X9_tryPutBack : Cond.code yX9_tryPutBack cX9_tryPutBack 5 (some .int) ∈ wsL_law := tb_3 167 rfl rfl
theorem mlL_31 : Cond.methodLink RL 31 yX8_recall ∈ wsL_law := tb_1 236 rfl rfl
theorem im_X8_recall : Cond.instanceMethod yX8_recall ∈ wsL_law := tb_1 237 rfl rfl
theorem se_X8_recall : Cond.selects RX8 yX8_recall yX8_recall ∈ wsL_law := tb_1 238 rfl rfl
theorem co_X8_recall : Cond.code yX8_recall cX8_recall 2 (some .int) ∈ wsL_law := tb_1 239 rfl rfl
theorem mlL_35 : Cond.methodLink RL 35 yX9_recall ∈ wsL_law := tb_3 168 rfl rfl
theorem im_X9_recall : Cond.instanceMethod yX9_recall ∈ wsL_law := tb_3 169 rfl rfl
theorem se_X9_recall : Cond.selects RX9 yX9_recall yX9_recall ∈ wsL_law := tb_3 170 rfl rfl
theorem co_X9_recall : Cond.code yX9_recall cX9_recall 2 (some .int) ∈ wsL_law := tb_3 171 rfl rfl
theorem mlX9_160 : Cond.methodLink RX9 160 yX9_tryRecall ∈ wsL_law := tb_3 172 rfl rfl
theorem im_X9_tryRecall : Cond.instanceMethod yX9_tryRecall ∈ wsL_law := tb_3 174 rfl rfl
theorem se_X9_tryRecall : Cond.selects RX9 yX9_tryRecall yX9_tryRecall ∈ wsL_law := tp_3 12 rfl
theorem co_X9_tryRecall : Cond.code yX9_tryRecall cX9_tryRecall 4 (some .int) ∈ wsL_law := tb_3 175 rfl rfl
theorem mlL_36 : Cond.methodLink RL 36 yX8_ofNote ∈ wsL_law := tb_2 0 rfl rfl
theorem im_X8_ofNote : Cond.instanceMethod yX8_ofNote ∈ wsL_law := tb_2 1 rfl rfl
theorem se_X8_ofNote : Cond.selects RX8 yX8_ofNote yX8_ofNote ∈ wsL_law := tb_2 2 rfl rfl
theorem co_X8_ofNote : Cond.code yX8_ofNote cX8_ofNote 5 (some .int) ∈ wsL_law := tb_2 3 rfl rfl
theorem mlX8_119 : Cond.methodLink RX8 119 yX8_isNote ∈ wsL_law := tb_2 4 rfl rfl
theorem mlX8_123 : Cond.methodLink RX8 123 yX3_called ∈ wsL_law := tb_2 5 rfl rfl
theorem mlX8_138 : Cond.methodLink RX8 138 yJ6_bitCount_0f7a4 ∈ wsL_law := tb_2 6 rfl rfl
theorem mlX8_143 : Cond.methodLink RX8 143 yX3_valueToRead ∈ wsL_law := tb_2 7 rfl rfl
theorem im_X3_valueToRead : Cond.instanceMethod yX3_valueToRead ∈ wsL_law := tb_2 8 rfl rfl
theorem se_X3_valueToRead : Cond.selects RX3 yX3_valueToRead yX3_valueToRead ∈ wsL_law := tb_2 9 rfl rfl
theorem co_X3_valueToRead : Cond.code yX3_valueToRead cX3_valueToRead 3 (some .int) ∈ wsL_law := tb_2 10 rfl rfl
theorem mlL_39 : Cond.methodLink RL 39 yX9_ofNote ∈ wsL_law := tb_3 184 rfl rfl
theorem im_X9_ofNote : Cond.instanceMethod yX9_ofNote ∈ wsL_law := tb_3 185 rfl rfl
theorem se_X9_ofNote : Cond.selects RX9 yX9_ofNote yX9_ofNote ∈ wsL_law := tb_3 186 rfl rfl
theorem co_X9_ofNote : Cond.code yX9_ofNote cX9_ofNote 3 (some .int) ∈ wsL_law := tb_3 187 rfl rfl
theorem mlX9_167 : Cond.methodLink RX9 167 yX9_holders ∈ wsL_law := tb_3 188 rfl rfl
theorem im_X9_holders : Cond.instanceMethod yX9_holders ∈ wsL_law := tb_3 190 rfl rfl
theorem se_X9_holders : Cond.selects RX9 yX9_holders yX9_holders ∈ wsL_law := tp_3 14 rfl
theorem co_X9_holders : Cond.code yX9_holders cX9_holders 4 (some .int) ∈ wsL_law := tb_3 191 rfl rfl
theorem mlX9_170 : Cond.methodLink RX9 170 yX9_valueNow ∈ wsL_law := tb_3 192 rfl rfl
theorem im_X9_valueNow : Cond.instanceMethod yX9_valueNow ∈ wsL_law := tb_3 194 rfl rfl
theorem se_X9_valueNow : Cond.selects RX9 yX9_valueNow yX9_valueNow ∈ wsL_law := tp_3 15 rfl
theorem co_X9_valueNow : Cond.code yX9_valueNow cX9_valueNow 5 (some .int) ∈ wsL_law := tb_3 195 rfl rfl
theorem mlL_40 : Cond.methodLink RL 40 yX8_onShelf ∈ wsL_law := tb_2 11 rfl rfl
theorem im_X8_onShelf : Cond.instanceMethod yX8_onShelf ∈ wsL_law := tb_2 12 rfl rfl
theorem se_X8_onShelf : Cond.selects RX8 yX8_onShelf yX8_onShelf ∈ wsL_law := tb_2 13 rfl rfl
theorem co_X8_onShelf : Cond.code yX8_onShelf cX8_onShelf 4 (some .int) ∈ wsL_law := tb_2 14 rfl rfl
theorem mlX8_152 : Cond.methodLink RX8 152 yX8_isReader ∈ wsL_law := tb_2 15 rfl rfl
theorem mlX8_158 : Cond.methodLink RX8 158 yX7_noteAt ∈ wsL_law := tb_2 16 rfl rfl
theorem mlX8_161 : Cond.methodLink RX8 161 yX7_valueAt ∈ wsL_law := tb_2 17 rfl rfl
theorem mlX8_164 : Cond.methodLink RX8 164 yX7_isChangedAt ∈ wsL_law := tb_2 18 rfl rfl
theorem mlL_43 : Cond.methodLink RL 43 yX9_onShelf ∈ wsL_law := tb_3 196 rfl rfl
theorem im_X9_onShelf : Cond.instanceMethod yX9_onShelf ∈ wsL_law := tb_3 197 rfl rfl
theorem se_X9_onShelf : Cond.selects RX9 yX9_onShelf yX9_onShelf ∈ wsL_law := tb_3 198 rfl rfl
theorem co_X9_onShelf : Cond.code yX9_onShelf cX9_onShelf 4 (some .int) ∈ wsL_law := tb_3 199 rfl rfl
theorem mlL_44 : Cond.methodLink RL 44 yX8_ofReader ∈ wsL_law := tb_2 19 rfl rfl
theorem im_X8_ofReader : Cond.instanceMethod yX8_ofReader ∈ wsL_law := tb_2 20 rfl rfl
theorem se_X8_ofReader : Cond.selects RX8 yX8_ofReader yX8_ofReader ∈ wsL_law := tb_2 21 rfl rfl
theorem co_X8_ofReader : Cond.code yX8_ofReader cX8_ofReader 3 (some .int) ∈ wsL_law := tb_2 22 rfl rfl
theorem mlX8_167 : Cond.methodLink RX8 167 yX8_groupOf ∈ wsL_law := tb_2 23 rfl rfl
theorem mlX8_182 : Cond.methodLink RX8 182 yX3_notesThatCall ∈ wsL_law := tb_2 24 rfl rfl
theorem im_X3_notesThatCall : Cond.instanceMethod yX3_notesThatCall ∈ wsL_law := tb_2 25 rfl rfl
theorem se_X3_notesThatCall : Cond.selects RX3 yX3_notesThatCall yX3_notesThatCall ∈ wsL_law := tb_2 26 rfl rfl
theorem co_X3_notesThatCall : Cond.code yX3_notesThatCall cX3_notesThatCall 4 (some .int) ∈ wsL_law := tb_2 27 rfl rfl
theorem mlL_47 : Cond.methodLink RL 47 yX9_ofReader ∈ wsL_law := tb_3 200 rfl rfl
theorem im_X9_ofReader : Cond.instanceMethod yX9_ofReader ∈ wsL_law := tb_3 201 rfl rfl
theorem se_X9_ofReader : Cond.selects RX9 yX9_ofReader yX9_ofReader ∈ wsL_law := tb_3 202 rfl rfl
theorem co_X9_ofReader : Cond.code yX9_ofReader cX9_ofReader 3 (some .int) ∈ wsL_law := tb_3 203 rfl rfl
theorem mlX9_173 : Cond.methodLink RX9 173 yX9_callers ∈ wsL_law := tb_3 204 rfl rfl
theorem im_X9_callers : Cond.instanceMethod yX9_callers ∈ wsL_law := tb_3 206 rfl rfl
theorem se_X9_callers : Cond.selects RX9 yX9_callers yX9_callers ∈ wsL_law := tp_4 0 rfl
theorem co_X9_callers : Cond.code yX9_callers cX9_callers 4 (some .int) ∈ wsL_law := tb_3 207 rfl rfl
theorem mlL_48 : Cond.methodLink RL 48 yX8_count ∈ wsL_law := tb_2 28 rfl rfl
theorem im_X8_count : Cond.instanceMethod yX8_count ∈ wsL_law := tb_2 29 rfl rfl
theorem se_X8_count : Cond.selects RX8 yX8_count yX8_count ∈ wsL_law := tb_2 30 rfl rfl
theorem co_X8_count : Cond.code yX8_count cX8_count 2 (some .int) ∈ wsL_law := tb_2 31 rfl rfl
theorem mlX8_188 : Cond.methodLink RX8 188 yX7_howMany ∈ wsL_law := tb_2 32 rfl rfl
theorem im_X7_howMany : Cond.instanceMethod yX7_howMany ∈ wsL_law := tb_2 33 rfl rfl
theorem se_X7_howMany : Cond.selects RX7 yX7_howMany yX7_howMany ∈ wsL_law := tb_2 34 rfl rfl
theorem co_X7_howMany : Cond.code yX7_howMany cX7_howMany 3 (some .int) ∈ wsL_law := tb_2 35 rfl rfl
theorem mlX8_191 : Cond.methodLink RX8 191 yX7_howManyChanged ∈ wsL_law := tb_2 36 rfl rfl
theorem im_X7_howManyChanged : Cond.instanceMethod yX7_howManyChanged ∈ wsL_law := tb_2 37 rfl rfl
theorem se_X7_howManyChanged : Cond.selects RX7 yX7_howManyChanged yX7_howManyChanged ∈ wsL_law := tb_2 38 rfl rfl
theorem co_X7_howManyChanged : Cond.code yX7_howManyChanged cX7_howManyChanged 5 (some .int) ∈ wsL_law := tb_2 39 rfl rfl
theorem mlX7_47 : Cond.methodLink RX7 47 yX7_isChangedAt ∈ wsL_law := tb_2 40 rfl rfl
theorem mlX8_194 : Cond.methodLink RX8 194 yX1_howManyGrouped ∈ wsL_law := tb_2 41 rfl rfl
theorem im_X1_howManyGrouped : Cond.instanceMethod yX1_howManyGrouped ∈ wsL_law := tb_2 42 rfl rfl
theorem se_X1_howManyGrouped : Cond.selects RX1 yX1_howManyGrouped yX1_howManyGrouped ∈ wsL_law := tb_2 43 rfl rfl
theorem co_X1_howManyGrouped : Cond.code yX1_howManyGrouped cX1_howManyGrouped 3 (some .int) ∈ wsL_law := tb_2 44 rfl rfl
theorem mlL_51 : Cond.methodLink RL 51 yX9_count ∈ wsL_law := tb_3 208 rfl rfl
theorem im_X9_count : Cond.instanceMethod yX9_count ∈ wsL_law := tb_3 209 rfl rfl
theorem se_X9_count : Cond.selects RX9 yX9_count yX9_count ∈ wsL_law := tb_3 210 rfl rfl
theorem co_X9_count : Cond.code yX9_count cX9_count 2 (some .int) ∈ wsL_law := tb_3 211 rfl rfl
theorem flX9_180 : Cond.fieldLink RX9 180 "ShoutGroupsModel" "padMany" "I" ∈ wsL_law := tb_2 225 rfl rfl
theorem mlX9_176 : Cond.methodLink RX9 176 yX9_copies ∈ wsL_law := tb_3 212 rfl rfl
theorem im_X9_copies : Cond.instanceMethod yX9_copies ∈ wsL_law := tb_3 214 rfl rfl
theorem se_X9_copies : Cond.selects RX9 yX9_copies yX9_copies ∈ wsL_law := tp_4 1 rfl
theorem co_X9_copies : Cond.code yX9_copies cX9_copies 5 (some .int) ∈ wsL_law := tb_3 215 rfl rfl
theorem mlL_52 : Cond.methodLink RL 52 yX8_costOfReading ∈ wsL_law := tb_2 45 rfl rfl
theorem im_X8_costOfReading : Cond.instanceMethod yX8_costOfReading ∈ wsL_law := tb_2 46 rfl rfl
theorem se_X8_costOfReading : Cond.selects RX8 yX8_costOfReading yX8_costOfReading ∈ wsL_law := tb_2 47 rfl rfl
theorem co_X8_costOfReading : Cond.code yX8_costOfReading cX8_costOfReading 3 (some .int) ∈ wsL_law := tb_2 48 rfl rfl
theorem mlX8_202 : Cond.methodLink RX8 202 yX3_messagesToRead ∈ wsL_law := tb_2 49 rfl rfl
theorem im_X3_messagesToRead : Cond.instanceMethod yX3_messagesToRead ∈ wsL_law := tb_2 50 rfl rfl
theorem se_X3_messagesToRead : Cond.selects RX3 yX3_messagesToRead yX3_messagesToRead ∈ wsL_law := tb_2 51 rfl rfl
theorem co_X3_messagesToRead : Cond.code yX3_messagesToRead cX3_messagesToRead 4 (some .int) ∈ wsL_law := tb_2 52 rfl rfl
theorem mlX3_179 : Cond.methodLink RX3 179 yX3_messagesToMakeRoom ∈ wsL_law := tb_2 53 rfl rfl
theorem im_X3_messagesToMakeRoom : Cond.instanceMethod yX3_messagesToMakeRoom ∈ wsL_law := tb_2 55 rfl rfl
theorem se_X3_messagesToMakeRoom : Cond.selects RX3 yX3_messagesToMakeRoom yX3_messagesToMakeRoom ∈ wsL_law := tp_1 7 rfl
theorem co_X3_messagesToMakeRoom : Cond.code yX3_messagesToMakeRoom cX3_messagesToMakeRoom 5 (some .int) ∈ wsL_law := tb_2 56 rfl rfl
theorem mlL_55 : Cond.methodLink RL 55 yX9_costOfReading ∈ wsL_law := tb_3 216 rfl rfl
theorem im_X9_costOfReading : Cond.instanceMethod yX9_costOfReading ∈ wsL_law := tb_3 217 rfl rfl
theorem se_X9_costOfReading : Cond.selects RX9 yX9_costOfReading yX9_costOfReading ∈ wsL_law := tb_3 218 rfl rfl
theorem co_X9_costOfReading : Cond.code yX9_costOfReading cX9_costOfReading 5 (some .int) ∈ wsL_law := tb_3 219 rfl rfl
theorem mlX9_183 : Cond.methodLink RX9 183 yX9_layAside ∈ wsL_law := tb_3 220 rfl rfl
theorem im_X9_layAside : Cond.instanceMethod yX9_layAside ∈ wsL_law := tb_3 222 rfl rfl
theorem se_X9_layAside : Cond.selects RX9 yX9_layAside yX9_layAside ∈ wsL_law := tp_4 2 rfl
theorem co_X9_layAside : Cond.code yX9_layAside cX9_layAside 2 none ∈ wsL_law := tb_3 223 rfl rfl
theorem mlX9_186 : Cond.methodLink RX9 186 yX9_layBack ∈ wsL_law := tb_3 224 rfl rfl
theorem im_X9_layBack : Cond.instanceMethod yX9_layBack ∈ wsL_law := tb_3 226 rfl rfl
theorem se_X9_layBack : Cond.selects RX9 yX9_layBack yX9_layBack ∈ wsL_law := tp_4 3 rfl
theorem co_X9_layBack : Cond.code yX9_layBack cX9_layBack 2 none ∈ wsL_law := tb_3 227 rfl rfl
theorem mlL_56 : Cond.methodLink RL 56 yX8_costOfChange ∈ wsL_law := tb_2 57 rfl rfl
theorem im_X8_costOfChange : Cond.instanceMethod yX8_costOfChange ∈ wsL_law := tb_2 58 rfl rfl
theorem se_X8_costOfChange : Cond.selects RX8 yX8_costOfChange yX8_costOfChange ∈ wsL_law := tb_2 59 rfl rfl
theorem co_X8_costOfChange : Cond.code yX8_costOfChange cX8_costOfChange 4 (some .int) ∈ wsL_law := tb_2 60 rfl rfl
theorem mlX8_205 : Cond.methodLink RX8 205 yX3_messagesToChange ∈ wsL_law := tb_2 61 rfl rfl
theorem im_X3_messagesToChange : Cond.instanceMethod yX3_messagesToChange ∈ wsL_law := tb_2 62 rfl rfl
theorem se_X3_messagesToChange : Cond.selects RX3 yX3_messagesToChange yX3_messagesToChange ∈ wsL_law := tb_2 63 rfl rfl
theorem co_X3_messagesToChange : Cond.code yX3_messagesToChange cX3_messagesToChange 6 (some .int) ∈ wsL_law := tb_2 64 rfl rfl
theorem mlX3_185 : Cond.methodLink RX3 185 yJ6_bitCount_0f7a4 ∈ wsL_law := tb_2 65 rfl rfl
theorem mlX8_208 : Cond.methodLink RX8 208 yX3_wastedToChange ∈ wsL_law := tb_2 66 rfl rfl
theorem im_X3_wastedToChange : Cond.instanceMethod yX3_wastedToChange ∈ wsL_law := tb_2 67 rfl rfl
theorem se_X3_wastedToChange : Cond.selects RX3 yX3_wastedToChange yX3_wastedToChange ∈ wsL_law := tb_2 68 rfl rfl
theorem co_X3_wastedToChange : Cond.code yX3_wastedToChange cX3_wastedToChange 3 (some .int) ∈ wsL_law := tb_2 69 rfl rfl
theorem mlL_59 : Cond.methodLink RL 59 yX9_costOfChange ∈ wsL_law := tb_3 228 rfl rfl
theorem im_X9_costOfChange : Cond.instanceMethod yX9_costOfChange ∈ wsL_law := tb_3 229 rfl rfl
theorem se_X9_costOfChange : Cond.selects RX9 yX9_costOfChange yX9_costOfChange ∈ wsL_law := tb_3 230 rfl rfl
theorem co_X9_costOfChange : Cond.code yX9_costOfChange cX9_costOfChange 4 (some .int) ∈ wsL_law := tb_3 231 rfl rfl
theorem mlX9_189 : Cond.methodLink RX9 189 yX9_cost ∈ wsL_law := tb_3 232 rfl rfl
theorem im_X9_cost : Cond.instanceMethod yX9_cost ∈ wsL_law := tb_3 234 rfl rfl
theorem se_X9_cost : Cond.selects RX9 yX9_cost yX9_cost ∈ wsL_law := tp_4 4 rfl
theorem co_X9_cost : Cond.code yX9_cost cX9_cost 6 (some .int) ∈ wsL_law := tb_3 235 rfl rfl
theorem mlL_60 : Cond.methodLink RL 60 yX8_cheapest ∈ wsL_law := tb_2 70 rfl rfl
theorem im_X8_cheapest : Cond.instanceMethod yX8_cheapest ∈ wsL_law := tb_2 71 rfl rfl
theorem se_X8_cheapest : Cond.selects RX8 yX8_cheapest yX8_cheapest ∈ wsL_law := tb_2 72 rfl rfl
theorem co_X8_cheapest : Cond.code yX8_cheapest cX8_cheapest 6 (some .int) ∈ wsL_law := tb_2 73 rfl rfl
theorem mlL_63 : Cond.methodLink RL 63 yX9_cheapest ∈ wsL_law := tb_3 236 rfl rfl
theorem im_X9_cheapest : Cond.instanceMethod yX9_cheapest ∈ wsL_law := tb_3 237 rfl rfl
theorem se_X9_cheapest : Cond.selects RX9 yX9_cheapest yX9_cheapest ∈ wsL_law := tb_3 238 rfl rfl
theorem co_X9_cheapest : Cond.code yX9_cheapest cX9_cheapest 6 (some .int) ∈ wsL_law := tb_3 239 rfl rfl
theorem mlL_64 : Cond.methodLink RL 64 yX8_loudest ∈ wsL_law := tb_2 74 rfl rfl
theorem im_X8_loudest : Cond.instanceMethod yX8_loudest ∈ wsL_law := tb_2 75 rfl rfl
theorem se_X8_loudest : Cond.selects RX8 yX8_loudest yX8_loudest ∈ wsL_law := tb_2 76 rfl rfl
theorem co_X8_loudest : Cond.code yX8_loudest cX8_loudest 6 (some .int) ∈ wsL_law := tb_2 77 rfl rfl
theorem mlX8_211 : Cond.methodLink RX8 211 yX3_fewestWasted ∈ wsL_law := tb_2 78 rfl rfl
theorem im_X3_fewestWasted : Cond.instanceMethod yX3_fewestWasted ∈ wsL_law := tb_2 79 rfl rfl
theorem se_X3_fewestWasted : Cond.selects RX3 yX3_fewestWasted yX3_fewestWasted ∈ wsL_law := tb_2 80 rfl rfl
theorem co_X3_fewestWasted : Cond.code yX3_fewestWasted cX3_fewestWasted 4 (some .int) ∈ wsL_law := tb_2 81 rfl rfl
theorem mlL_67 : Cond.methodLink RL 67 yX9_loudest ∈ wsL_law := tb_4 0 rfl rfl
theorem im_X9_loudest : Cond.instanceMethod yX9_loudest ∈ wsL_law := tb_4 1 rfl rfl
theorem se_X9_loudest : Cond.selects RX9 yX9_loudest yX9_loudest ∈ wsL_law := tb_4 2 rfl rfl
theorem co_X9_loudest : Cond.code yX9_loudest cX9_loudest 6 (some .int) ∈ wsL_law := tb_4 3 rfl rfl
theorem mlX9_192 : Cond.methodLink RX9 192 yX9_fewestWasted ∈ wsL_law := tb_4 4 rfl rfl
theorem im_X9_fewestWasted : Cond.instanceMethod yX9_fewestWasted ∈ wsL_law := tb_4 6 rfl rfl
theorem se_X9_fewestWasted : Cond.selects RX9 yX9_fewestWasted yX9_fewestWasted ∈ wsL_law := tp_4 5 rfl
theorem co_X9_fewestWasted : Cond.code yX9_fewestWasted cX9_fewestWasted 5 (some .int) ∈ wsL_law := tb_4 7 rfl rfl
theorem mlL_68 : Cond.methodLink RL 68 yX8_accountWith ∈ wsL_law := tb_2 82 rfl rfl
theorem im_X8_accountWith : Cond.instanceMethod yX8_accountWith ∈ wsL_law := tb_2 83 rfl rfl
theorem se_X8_accountWith : Cond.selects RX8 yX8_accountWith yX8_accountWith ∈ wsL_law := tb_2 84 rfl rfl
theorem co_X8_accountWith : Cond.code yX8_accountWith cX8_accountWith 3 (some .int) ∈ wsL_law := tb_2 85 rfl rfl
theorem mlX8_214 : Cond.methodLink RX8 214 yX3_messagesOfAccount ∈ wsL_law := tb_2 86 rfl rfl
theorem im_X3_messagesOfAccount : Cond.instanceMethod yX3_messagesOfAccount ∈ wsL_law := tb_2 87 rfl rfl
theorem se_X3_messagesOfAccount : Cond.selects RX3 yX3_messagesOfAccount yX3_messagesOfAccount ∈ wsL_law := tb_2 88 rfl rfl
theorem co_X3_messagesOfAccount : Cond.code yX3_messagesOfAccount cX3_messagesOfAccount 8 (some .int) ∈ wsL_law := tb_2 89 rfl rfl
theorem mlX3_190 : Cond.methodLink RX3 190 yX1_clear ∈ wsL_law := tb_2 90 rfl rfl
theorem im_X1_clear : Cond.instanceMethod yX1_clear ∈ wsL_law := tb_2 91 rfl rfl
theorem se_X1_clear : Cond.selects RX1 yX1_clear yX1_clear ∈ wsL_law := tb_2 92 rfl rfl
theorem co_X1_clear : Cond.code yX1_clear cX1_clear 1 none ∈ wsL_law := tb_2 93 rfl rfl
theorem mlX1_54 : Cond.methodLink RX1 54 yX6_clear ∈ wsL_law := tb_2 94 rfl rfl
theorem im_X6_clear : Cond.instanceMethod yX6_clear ∈ wsL_law := tb_2 95 rfl rfl
theorem se_X6_clear : Cond.selects RX6 yX6_clear yX6_clear ∈ wsL_law := tb_2 96 rfl rfl
theorem co_X6_clear : Cond.code yX6_clear cX6_clear 1 none ∈ wsL_law := tb_2 97 rfl rfl
theorem mlX6_13 : Cond.methodLink RX6 13 yJ7_fill_53178 ∈ wsL_law := tb_2 98 rfl rfl
theorem st_J7_fill_53178 : Cond.static yJ7_fill_53178 ∈ wsL_law := tb_2 99 rfl rfl
theorem ini_J7 : Cond.initialized RJ7 ∈ wsL_law := tb_0 14 rfl rfl
theorem co_J7_fill_53178 : Cond.code yJ7_fill_53178 cJ7_fill_53178 4 none ∈ wsL_law := tb_2 100 rfl rfl
theorem mlX3_193 : Cond.methodLink RX3 193 yX7_clear ∈ wsL_law := tb_2 101 rfl rfl
theorem im_X7_clear : Cond.instanceMethod yX7_clear ∈ wsL_law := tb_2 102 rfl rfl
theorem se_X7_clear : Cond.selects RX7 yX7_clear yX7_clear ∈ wsL_law := tb_2 103 rfl rfl
theorem co_X7_clear : Cond.code yX7_clear cX7_clear 1 none ∈ wsL_law := tb_2 104 rfl rfl
theorem mlX7_50 : Cond.methodLink RX7 50 yX6_clear ∈ wsL_law := tb_2 105 rfl rfl
theorem mlX3_194 : Cond.methodLink RX3 194 yX6_clear ∈ wsL_law := tb_2 106 rfl rfl
theorem mlX3_199 : Cond.methodLink RX3 199 yX0_cellOf ∈ wsL_law := tb_2 107 rfl rfl
theorem mlX3_209 : Cond.methodLink RX3 209 yX3_rewrite ∈ wsL_law := tb_2 108 rfl rfl
theorem mlX3_213 : Cond.methodLink RX3 213 yX3_lend ∈ wsL_law := tb_2 109 rfl rfl
theorem mlL_71 : Cond.methodLink RL 71 yX9_accountWith ∈ wsL_law := tb_4 8 rfl rfl
theorem im_X9_accountWith : Cond.instanceMethod yX9_accountWith ∈ wsL_law := tb_4 9 rfl rfl
theorem se_X9_accountWith : Cond.selects RX9 yX9_accountWith yX9_accountWith ∈ wsL_law := tb_4 10 rfl rfl
theorem co_X9_accountWith : Cond.code yX9_accountWith cX9_accountWith 3 (some .int) ∈ wsL_law := tb_4 11 rfl rfl
theorem mlX9_195 : Cond.methodLink RX9 195 yX9_messagesWith ∈ wsL_law := tb_4 12 rfl rfl
theorem im_X9_messagesWith : Cond.instanceMethod yX9_messagesWith ∈ wsL_law := tb_4 14 rfl rfl
theorem se_X9_messagesWith : Cond.selects RX9 yX9_messagesWith yX9_messagesWith ∈ wsL_law := tp_4 6 rfl
theorem co_X9_messagesWith : Cond.code yX9_messagesWith cX9_messagesWith 7 (some .int) ∈ wsL_law := tb_4 15 rfl rfl
theorem mlL_72 : Cond.methodLink RL 72 yX8_best ∈ wsL_law := tb_2 110 rfl rfl
theorem im_X8_best : Cond.instanceMethod yX8_best ∈ wsL_law := tb_2 111 rfl rfl
theorem se_X8_best : Cond.selects RX8 yX8_best yX8_best ∈ wsL_law := tb_2 112 rfl rfl
theorem co_X8_best : Cond.code yX8_best cX8_best 8 (some .int) ∈ wsL_law := tb_2 113 rfl rfl
theorem mlL_75 : Cond.methodLink RL 75 yX9_best ∈ wsL_law := tb_4 16 rfl rfl
theorem im_X9_best : Cond.instanceMethod yX9_best ∈ wsL_law := tb_4 17 rfl rfl
theorem se_X9_best : Cond.selects RX9 yX9_best yX9_best ∈ wsL_law := tb_4 18 rfl rfl
theorem co_X9_best : Cond.code yX9_best cX9_best 8 (some .int) ∈ wsL_law := tb_4 19 rfl rfl
theorem mlL_76 : Cond.methodLink RL 76 yX8_account ∈ wsL_law := tb_2 114 rfl rfl
theorem im_X8_account : Cond.instanceMethod yX8_account ∈ wsL_law := tb_2 115 rfl rfl
theorem se_X8_account : Cond.selects RX8 yX8_account yX8_account ∈ wsL_law := tb_2 116 rfl rfl
theorem co_X8_account : Cond.code yX8_account cX8_account 2 (some .int) ∈ wsL_law := tb_2 117 rfl rfl
theorem mlX8_226 : Cond.methodLink RX8 226 yX0_clear ∈ wsL_law := tb_2 118 rfl rfl
theorem im_X0_clear : Cond.instanceMethod yX0_clear ∈ wsL_law := tb_2 119 rfl rfl
theorem se_X0_clear : Cond.selects RX0 yX0_clear yX0_clear ∈ wsL_law := tb_2 120 rfl rfl
theorem co_X0_clear : Cond.code yX0_clear cX0_clear 1 none ∈ wsL_law := tb_2 121 rfl rfl
theorem mlL_80 : Cond.methodLink RL 80 yX9_account ∈ wsL_law := tb_4 20 rfl rfl
theorem im_X9_account : Cond.instanceMethod yX9_account ∈ wsL_law := tb_4 21 rfl rfl
theorem se_X9_account : Cond.selects RX9 yX9_account yX9_account ∈ wsL_law := tb_4 22 rfl rfl
theorem co_X9_account : Cond.code yX9_account cX9_account 2 (some .int) ∈ wsL_law := tb_4 23 rfl rfl
theorem mlL_83 : Cond.methodLink RL 83 yX8_put ∈ wsL_law := tb_2 122 rfl rfl
theorem im_X8_put : Cond.instanceMethod yX8_put ∈ wsL_law := tb_2 123 rfl rfl
theorem se_X8_put : Cond.selects RX8 yX8_put yX8_put ∈ wsL_law := tb_2 124 rfl rfl
theorem co_X8_put : Cond.code yX8_put cX8_put 5 (some .int) ∈ wsL_law := tb_2 125 rfl rfl
theorem mlX8_229 : Cond.methodLink RX8 229 yX8_howManyCharacters ∈ wsL_law := tb_2 126 rfl rfl
theorem st_X8_howManyCharacters : Cond.static yX8_howManyCharacters ∈ wsL_law := tb_2 127 rfl rfl
theorem co_X8_howManyCharacters : Cond.code yX8_howManyCharacters cX8_howManyCharacters 4 (some .int) ∈ wsL_law := tb_2 128 rfl rfl
theorem mlX8_233 : Cond.methodLink RX8 233 yX8_codeAt ∈ wsL_law := tb_2 129 rfl rfl
theorem st_X8_codeAt : Cond.static yX8_codeAt ∈ wsL_law := tb_2 130 rfl rfl
theorem co_X8_codeAt : Cond.code yX8_codeAt cX8_codeAt 3 (some .int) ∈ wsL_law := tb_2 131 rfl rfl
theorem klX8_262 : Cond.constantLong RX8 262 (255) ∈ wsL_law := tb_2 132 rfl rfl
theorem mlX8_237 : Cond.methodLink RX8 237 yX5_append ∈ wsL_law := tb_2 133 rfl rfl
theorem im_X5_append : Cond.instanceMethod yX5_append ∈ wsL_law := tb_2 134 rfl rfl
theorem se_X5_append : Cond.selects RX5 yX5_append yX5_append ∈ wsL_law := tb_2 135 rfl rfl
theorem co_X5_append : Cond.code yX5_append cX5_append 2 none ∈ wsL_law := tb_2 136 rfl rfl
theorem flX5_20 : Cond.fieldLink RX5 20 "ShoutGroups$Pad" "length" "I" ∈ wsL_law := tb_0 199 rfl rfl
theorem mlX5_28 : Cond.methodLink RX5 28 yX6_write ∈ wsL_law := tb_2 137 rfl rfl
theorem mlL_87 : Cond.methodLink RL 87 yX9_put ∈ wsL_law := tb_4 24 rfl rfl
theorem im_X9_put : Cond.instanceMethod yX9_put ∈ wsL_law := tb_4 25 rfl rfl
theorem se_X9_put : Cond.selects RX9 yX9_put yX9_put ∈ wsL_law := tb_4 26 rfl rfl
theorem co_X9_put : Cond.code yX9_put cX9_put 7 (some .int) ∈ wsL_law := tb_4 27 rfl rfl
theorem klX9_198 : Cond.constantLong RX9 198 (255) ∈ wsL_law := tb_4 28 rfl rfl
theorem mlL_88 : Cond.methodLink RL 88 yX8_wipe ∈ wsL_law := tb_2 138 rfl rfl
theorem im_X8_wipe : Cond.instanceMethod yX8_wipe ∈ wsL_law := tb_2 139 rfl rfl
theorem se_X8_wipe : Cond.selects RX8 yX8_wipe yX8_wipe ∈ wsL_law := tb_2 140 rfl rfl
theorem co_X8_wipe : Cond.code yX8_wipe cX8_wipe 2 (some .int) ∈ wsL_law := tb_2 141 rfl rfl
theorem mlL_91 : Cond.methodLink RL 91 yX9_wipe ∈ wsL_law := tb_4 29 rfl rfl
theorem im_X9_wipe : Cond.instanceMethod yX9_wipe ∈ wsL_law := tb_4 30 rfl rfl
theorem se_X9_wipe : Cond.selects RX9 yX9_wipe yX9_wipe ∈ wsL_law := tb_4 31 rfl rfl
theorem co_X9_wipe : Cond.code yX9_wipe cX9_wipe 2 (some .int) ∈ wsL_law := tb_4 32 rfl rfl
theorem mlL_92 : Cond.methodLink RL 92 yX8_fault ∈ wsL_law := tb_2 142 rfl rfl
theorem im_X8_fault : Cond.instanceMethod yX8_fault ∈ wsL_law := tb_2 143 rfl rfl
theorem se_X8_fault : Cond.selects RX8 yX8_fault yX8_fault ∈ wsL_law := tb_2 144 rfl rfl
theorem co_X8_fault : Cond.code yX8_fault cX8_fault 1 (some .int) ∈ wsL_law := tb_2 145 rfl rfl
theorem mlX8_240 : Cond.methodLink RX8 240 yX4_findFault ∈ wsL_law := tb_2 146 rfl rfl
theorem im_X4_findFault : Cond.instanceMethod yX4_findFault ∈ wsL_law := tb_2 147 rfl rfl
theorem se_X4_findFault : Cond.selects RX4 yX4_findFault yX4_findFault ∈ wsL_law := tb_2 148 rfl rfl
theorem co_X4_findFault : Cond.code yX4_findFault cX4_findFault 2 (some .int) ∈ wsL_law := tb_2 149 rfl rfl
theorem flX4_15 : Cond.fieldLink RX4 15 "ShoutGroups$Orders" "place" "I" ∈ wsL_law := tb_0 214 rfl rfl
theorem mlX4_19 : Cond.methodLink RX4 19 yX4_takeNext ∈ wsL_law := tb_2 150 rfl rfl
theorem im_X4_takeNext : Cond.instanceMethod yX4_takeNext ∈ wsL_law := tb_2 151 rfl rfl
theorem se_X4_takeNext : Cond.selects RX4 yX4_takeNext yX4_takeNext ∈ wsL_law := tb_2 152 rfl rfl
theorem co_X4_takeNext : Cond.code yX4_takeNext cX4_takeNext 1 (some .boolean) ∈ wsL_law := tb_2 153 rfl rfl
theorem mlX4_28 : Cond.methodLink RX4 28 yX4_take ∈ wsL_law := tb_2 154 rfl rfl
theorem im_X4_take : Cond.instanceMethod yX4_take ∈ wsL_law := tb_2 156 rfl rfl
theorem se_X4_take : Cond.selects RX4 yX4_take yX4_take ∈ wsL_law := tp_1 8 rfl
theorem co_X4_take : Cond.code yX4_take cX4_take 2 (some .boolean) ∈ wsL_law := tb_2 157 rfl rfl
theorem mlX4_44 : Cond.methodLink RX4 44 yX5_codeAt ∈ wsL_law := tb_2 158 rfl rfl
theorem im_X5_codeAt : Cond.instanceMethod yX5_codeAt ∈ wsL_law := tb_2 159 rfl rfl
theorem se_X5_codeAt : Cond.selects RX5 yX5_codeAt yX5_codeAt ∈ wsL_law := tb_2 160 rfl rfl
theorem co_X5_codeAt : Cond.code yX5_codeAt cX5_codeAt 2 (some .int) ∈ wsL_law := tb_2 161 rfl rfl
theorem mlX5_24 : Cond.methodLink RX5 24 yX6_at ∈ wsL_law := tb_2 162 rfl rfl
theorem mlX4_32 : Cond.methodLink RX4 32 yX4_takeKind ∈ wsL_law := tb_2 163 rfl rfl
theorem im_X4_takeKind : Cond.instanceMethod yX4_takeKind ∈ wsL_law := tb_2 165 rfl rfl
theorem se_X4_takeKind : Cond.selects RX4 yX4_takeKind yX4_takeKind ∈ wsL_law := tp_1 9 rfl
theorem co_X4_takeKind : Cond.code yX4_takeKind cX4_takeKind 1 (some .boolean) ∈ wsL_law := tb_2 166 rfl rfl
theorem flX4_51 : Cond.fieldLink RX4 51 "ShoutGroups$Orders" "kind" "I" ∈ wsL_law := tb_0 217 rfl rfl
theorem mlX4_48 : Cond.methodLink RX4 48 yX4_kindOf ∈ wsL_law := tb_2 167 rfl rfl
theorem st_X4_kindOf : Cond.static yX4_kindOf ∈ wsL_law := tb_2 168 rfl rfl
theorem co_X4_kindOf : Cond.code yX4_kindOf cX4_kindOf 1 (some .int) ∈ wsL_law := tb_2 169 rfl rfl
theorem mlX4_35 : Cond.methodLink RX4 35 yX4_takeReader ∈ wsL_law := tb_2 170 rfl rfl
theorem im_X4_takeReader : Cond.instanceMethod yX4_takeReader ∈ wsL_law := tb_2 172 rfl rfl
theorem se_X4_takeReader : Cond.selects RX4 yX4_takeReader yX4_takeReader ∈ wsL_law := tp_1 10 rfl
theorem co_X4_takeReader : Cond.code yX4_takeReader cX4_takeReader 2 (some .boolean) ∈ wsL_law := tb_2 173 rfl rfl
theorem flX4_54 : Cond.fieldLink RX4 54 "ShoutGroups$Orders" "reader" "I" ∈ wsL_law := tb_0 219 rfl rfl
theorem flX4_60 : Cond.fieldLink RX4 60 "ShoutGroups$Orders" "number" "I" ∈ wsL_law := tb_0 216 rfl rfl
theorem mlX4_57 : Cond.methodLink RX4 57 yX4_takeNumber ∈ wsL_law := tb_2 174 rfl rfl
theorem im_X4_takeNumber : Cond.instanceMethod yX4_takeNumber ∈ wsL_law := tb_2 176 rfl rfl
theorem se_X4_takeNumber : Cond.selects RX4 yX4_takeNumber yX4_takeNumber ∈ wsL_law := tp_1 11 rfl
theorem co_X4_takeNumber : Cond.code yX4_takeNumber cX4_takeNumber 4 (some .boolean) ∈ wsL_law := tb_2 177 rfl rfl
theorem mlX4_69 : Cond.methodLink RX4 69 yX4_isDigit ∈ wsL_law := tb_2 178 rfl rfl
theorem st_X4_isDigit : Cond.static yX4_isDigit ∈ wsL_law := tb_2 179 rfl rfl
theorem co_X4_isDigit : Cond.code yX4_isDigit cX4_isDigit 1 (some .boolean) ∈ wsL_law := tb_2 180 rfl rfl
theorem mlX4_38 : Cond.methodLink RX4 38 yX4_takeNote ∈ wsL_law := tb_2 181 rfl rfl
theorem im_X4_takeNote : Cond.instanceMethod yX4_takeNote ∈ wsL_law := tb_2 183 rfl rfl
theorem se_X4_takeNote : Cond.selects RX4 yX4_takeNote yX4_takeNote ∈ wsL_law := tp_1 12 rfl
theorem co_X4_takeNote : Cond.code yX4_takeNote cX4_takeNote 2 (some .boolean) ∈ wsL_law := tb_2 184 rfl rfl
theorem flX4_63 : Cond.fieldLink RX4 63 "ShoutGroups$Orders" "note" "I" ∈ wsL_law := tb_0 221 rfl rfl
theorem mlX4_41 : Cond.methodLink RX4 41 yX4_takeValue ∈ wsL_law := tb_2 185 rfl rfl
theorem im_X4_takeValue : Cond.instanceMethod yX4_takeValue ∈ wsL_law := tb_2 187 rfl rfl
theorem se_X4_takeValue : Cond.selects RX4 yX4_takeValue yX4_takeValue ∈ wsL_law := tp_1 13 rfl
theorem co_X4_takeValue : Cond.code yX4_takeValue cX4_takeValue 2 (some .boolean) ∈ wsL_law := tb_2 188 rfl rfl
theorem flX4_66 : Cond.fieldLink RX4 66 "ShoutGroups$Orders" "value" "I" ∈ wsL_law := tb_0 223 rfl rfl
theorem mlL_95 : Cond.methodLink RL 95 yX9_fault ∈ wsL_law := tb_4 33 rfl rfl
theorem im_X9_fault : Cond.instanceMethod yX9_fault ∈ wsL_law := tb_4 34 rfl rfl
theorem se_X9_fault : Cond.selects RX9 yX9_fault yX9_fault ∈ wsL_law := tb_4 35 rfl rfl
theorem co_X9_fault : Cond.code yX9_fault cX9_fault 1 (some .int) ∈ wsL_law := tb_4 36 rfl rfl
theorem flX9_200 : Cond.fieldLink RX9 200 "ShoutGroupsModel" "spot" "I" ∈ wsL_law := tb_2 226 rfl rfl
theorem flX9_203 : Cond.fieldLink RX9 203 "ShoutGroupsModel" "isWrong" "Z" ∈ wsL_law := tb_2 227 rfl rfl
theorem flX9_211 : Cond.fieldLink RX9 211 "ShoutGroupsModel" "orders" "I" ∈ wsL_law := tb_2 228 rfl rfl
theorem mlX9_220 : Cond.methodLink RX9 220 yX9_takeOrder ∈ wsL_law := tb_4 37 rfl rfl
theorem im_X9_takeOrder : Cond.instanceMethod yX9_takeOrder ∈ wsL_law := tb_4 39 rfl rfl
theorem se_X9_takeOrder : Cond.selects RX9 yX9_takeOrder yX9_takeOrder ∈ wsL_law := tp_4 7 rfl
theorem co_X9_takeOrder : Cond.code yX9_takeOrder cX9_takeOrder 2 none ∈ wsL_law := tb_4 40 rfl rfl
theorem mlX9_207 : Cond.methodLink RX9 207 yX9_next ∈ wsL_law := tb_4 41 rfl rfl
theorem im_X9_next : Cond.instanceMethod yX9_next ∈ wsL_law := tb_4 43 rfl rfl
theorem se_X9_next : Cond.selects RX9 yX9_next yX9_next ∈ wsL_law := tp_4 8 rfl
theorem co_X9_next : Cond.code yX9_next cX9_next 1 (some .int) ∈ wsL_law := tb_4 44 rfl rfl
theorem mlX9_214 : Cond.methodLink RX9 214 yX9_takeNumber ∈ wsL_law := tb_4 45 rfl rfl
theorem im_X9_takeNumber : Cond.instanceMethod yX9_takeNumber ∈ wsL_law := tb_4 47 rfl rfl
theorem se_X9_takeNumber : Cond.selects RX9 yX9_takeNumber yX9_takeNumber ∈ wsL_law := tp_4 9 rfl
theorem co_X9_takeNumber : Cond.code yX9_takeNumber cX9_takeNumber 3 none ∈ wsL_law := tb_4 48 rfl rfl
theorem mlX9_217 : Cond.methodLink RX9 217 yX9_takeSign ∈ wsL_law := tb_4 49 rfl rfl
theorem im_X9_takeSign : Cond.instanceMethod yX9_takeSign ∈ wsL_law := tb_4 51 rfl rfl
theorem se_X9_takeSign : Cond.selects RX9 yX9_takeSign yX9_takeSign ∈ wsL_law := tp_4 10 rfl
theorem co_X9_takeSign : Cond.code yX9_takeSign cX9_takeSign 2 none ∈ wsL_law := tb_4 52 rfl rfl
theorem mlL_96 : Cond.methodLink RL 96 yX8_carryOut ∈ wsL_law := tb_2 189 rfl rfl
theorem im_X8_carryOut : Cond.instanceMethod yX8_carryOut ∈ wsL_law := tb_2 190 rfl rfl
theorem se_X8_carryOut : Cond.selects RX8 yX8_carryOut yX8_carryOut ∈ wsL_law := tb_2 191 rfl rfl
theorem co_X8_carryOut : Cond.code yX8_carryOut cX8_carryOut 2 (some .int) ∈ wsL_law := tb_2 192 rfl rfl
theorem mlX8_246 : Cond.methodLink RX8 246 yX4_takeNext ∈ wsL_law := tb_2 193 rfl rfl
theorem mlL_99 : Cond.methodLink RL 99 yX9_carryOut ∈ wsL_law := tb_4 53 rfl rfl
theorem im_X9_carryOut : Cond.instanceMethod yX9_carryOut ∈ wsL_law := tb_4 54 rfl rfl
theorem se_X9_carryOut : Cond.selects RX9 yX9_carryOut yX9_carryOut ∈ wsL_law := tb_4 55 rfl rfl
theorem co_X9_carryOut : Cond.code yX9_carryOut cX9_carryOut 2 (some .int) ∈ wsL_law := tb_4 56 rfl rfl
theorem mlX9_223 : Cond.methodLink RX9 223 yX9_fault ∈ wsL_law := tb_4 57 rfl rfl
theorem mlX9_226 : Cond.methodLink RX9 226 yX9_carry ∈ wsL_law := tb_4 58 rfl rfl
theorem im_X9_carry : Cond.instanceMethod yX9_carry ∈ wsL_law := tb_4 60 rfl rfl
theorem se_X9_carry : Cond.selects RX9 yX9_carry yX9_carry ∈ wsL_law := tp_4 11 rfl
theorem co_X9_carry : Cond.code yX9_carry cX9_carry 3 (some .int) ∈ wsL_law := tb_4 61 rfl rfl
theorem mlL_100 : Cond.methodLink RL 100 yX8_undo ∈ wsL_law := tb_2 194 rfl rfl
theorem im_X8_undo : Cond.instanceMethod yX8_undo ∈ wsL_law := tb_2 195 rfl rfl
theorem se_X8_undo : Cond.selects RX8 yX8_undo yX8_undo ∈ wsL_law := tb_2 196 rfl rfl
theorem co_X8_undo : Cond.code yX8_undo cX8_undo 1 (some .int) ∈ wsL_law := tb_2 197 rfl rfl
theorem mlX8_264 : Cond.methodLink RX8 264 yX2_takeBack ∈ wsL_law := tb_2 198 rfl rfl
theorem im_X2_takeBack : Cond.instanceMethod yX2_takeBack ∈ wsL_law := tb_2 199 rfl rfl
theorem se_X2_takeBack : Cond.selects RX2 yX2_takeBack yX2_takeBack ∈ wsL_law := tb_2 200 rfl rfl
theorem co_X2_takeBack : Cond.code yX2_takeBack cX2_takeBack 3 (some .boolean) ∈ wsL_law := tb_2 201 rfl rfl
theorem mlL_103 : Cond.methodLink RL 103 yX9_undo ∈ wsL_law := tb_4 62 rfl rfl
theorem im_X9_undo : Cond.instanceMethod yX9_undo ∈ wsL_law := tb_4 63 rfl rfl
theorem se_X9_undo : Cond.selects RX9 yX9_undo yX9_undo ∈ wsL_law := tb_4 64 rfl rfl
theorem co_X9_undo : Cond.code yX9_undo cX9_undo 3 (some .int) ∈ wsL_law := tb_4 65 rfl rfl
theorem mlL_104 : Cond.methodLink RL 104 yX8_save ∈ wsL_law := tb_2 202 rfl rfl
theorem im_X8_save : Cond.instanceMethod yX8_save ∈ wsL_law := tb_2 203 rfl rfl
theorem se_X8_save : Cond.selects RX8 yX8_save yX8_save ∈ wsL_law := tb_2 204 rfl rfl
theorem co_X8_save : Cond.code yX8_save cX8_save 3 (some .int) ∈ wsL_law := tb_2 205 rfl rfl
theorem mlX8_268 : Cond.methodLink RX8 268 yX3_copyFrom ∈ wsL_law := tb_2 206 rfl rfl
theorem mlL_107 : Cond.methodLink RL 107 yX9_save ∈ wsL_law := tb_4 66 rfl rfl
theorem im_X9_save : Cond.instanceMethod yX9_save ∈ wsL_law := tb_4 67 rfl rfl
theorem se_X9_save : Cond.selects RX9 yX9_save yX9_save ∈ wsL_law := tb_4 68 rfl rfl
theorem co_X9_save : Cond.code yX9_save cX9_save 3 (some .int) ∈ wsL_law := tb_4 69 rfl rfl
theorem mlL_108 : Cond.methodLink RL 108 yX8_restore ∈ wsL_law := tb_2 207 rfl rfl
theorem im_X8_restore : Cond.instanceMethod yX8_restore ∈ wsL_law := tb_2 208 rfl rfl
theorem se_X8_restore : Cond.selects RX8 yX8_restore yX8_restore ∈ wsL_law := tb_2 209 rfl rfl
theorem co_X8_restore : Cond.code yX8_restore cX8_restore 3 (some .int) ∈ wsL_law := tb_2 210 rfl rfl
theorem mlL_111 : Cond.methodLink RL 111 yX9_restore ∈ wsL_law := tb_4 70 rfl rfl
theorem im_X9_restore : Cond.instanceMethod yX9_restore ∈ wsL_law := tb_4 71 rfl rfl
theorem se_X9_restore : Cond.selects RX9 yX9_restore yX9_restore ∈ wsL_law := tb_4 72 rfl rfl
theorem co_X9_restore : Cond.code yX9_restore cX9_restore 3 (some .int) ∈ wsL_law := tb_4 73 rfl rfl
theorem inlX0 : ∀ w ∈ wsX00, w ∈ wsL_law := by
  intro w hw
  obtain ⟨k, hk, rfl⟩ := List.mem_map.mp hw
  have hk := List.mem_range.mp hk
  match k, hk with
  | 0, _ => exact tb_0 106 rfl rfl
  | 1, _ => exact tb_0 108 rfl rfl
  | 2, _ => exact tb_0 110 rfl rfl
  | 3, _ => exact tb_0 112 rfl rfl
  | 4, _ => exact tb_0 114 rfl rfl
  | k + 5, h => exact absurd h (by omega)
theorem inlX1 : ∀ w ∈ wsX10, w ∈ wsL_law := by
  intro w hw
  obtain ⟨k, hk, rfl⟩ := List.mem_map.mp hw
  have hk := List.mem_range.mp hk
  match k, hk with
  | 0, _ => exact tb_0 55 rfl rfl
  | 1, _ => exact tb_0 57 rfl rfl
  | k + 2, h => exact absurd h (by omega)
theorem inlX2 : ∀ w ∈ wsX20, w ∈ wsL_law := by
  intro w hw
  obtain ⟨k, hk, rfl⟩ := List.mem_map.mp hw
  have hk := List.mem_range.mp hk
  match k, hk with
  | 0, _ => exact tb_0 183 rfl rfl
  | 1, _ => exact tb_0 185 rfl rfl
  | 2, _ => exact tb_0 187 rfl rfl
  | k + 3, h => exact absurd h (by omega)
theorem inlX3 : ∀ w ∈ wsX30, w ∈ wsL_law := by
  intro w hw
  obtain ⟨k, hk, rfl⟩ := List.mem_map.mp hw
  have hk := List.mem_range.mp hk
  match k, hk with
  | 0, _ => exact tb_0 145 rfl rfl
  | 1, _ => exact tb_0 147 rfl rfl
  | 2, _ => exact tb_0 149 rfl rfl
  | 3, _ => exact tb_0 151 rfl rfl
  | 4, _ => exact tb_0 153 rfl rfl
  | 5, _ => exact tb_0 155 rfl rfl
  | 6, _ => exact tb_0 157 rfl rfl
  | 7, _ => exact tb_0 159 rfl rfl
  | 8, _ => exact tb_0 161 rfl rfl
  | 9, _ => exact tb_0 163 rfl rfl
  | 10, _ => exact tb_0 165 rfl rfl
  | 11, _ => exact tb_0 167 rfl rfl
  | k + 12, h => exact absurd h (by omega)
theorem inlX4 : ∀ w ∈ wsX40, w ∈ wsL_law := by
  intro w hw
  obtain ⟨k, hk, rfl⟩ := List.mem_map.mp hw
  have hk := List.mem_range.mp hk
  match k, hk with
  | 0, _ => exact tb_0 225 rfl rfl
  | 1, _ => exact tb_0 227 rfl rfl
  | 2, _ => exact tb_0 229 rfl rfl
  | 3, _ => exact tb_0 231 rfl rfl
  | 4, _ => exact tb_0 233 rfl rfl
  | 5, _ => exact tb_0 235 rfl rfl
  | 6, _ => exact tb_0 237 rfl rfl
  | k + 7, h => exact absurd h (by omega)
theorem inlX5 : ∀ w ∈ wsX50, w ∈ wsL_law := by
  intro w hw
  obtain ⟨k, hk, rfl⟩ := List.mem_map.mp hw
  have hk := List.mem_range.mp hk
  match k, hk with
  | 0, _ => exact tb_0 202 rfl rfl
  | 1, _ => exact tb_0 204 rfl rfl
  | k + 2, h => exact absurd h (by omega)
theorem inlX6 : ∀ w ∈ wsX60, w ∈ wsL_law := by
  intro w hw
  obtain ⟨k, hk, rfl⟩ := List.mem_map.mp hw
  have hk := List.mem_range.mp hk
  match k, hk with
  | 0, _ => exact tb_0 38 rfl rfl
  | k + 1, h => exact absurd h (by omega)
theorem inlX7 : ∀ w ∈ wsX70, w ∈ wsL_law := by
  intro w hw
  obtain ⟨k, hk, rfl⟩ := List.mem_map.mp hw
  have hk := List.mem_range.mp hk
  match k, hk with
  | 0, _ => exact tb_0 77 rfl rfl
  | 1, _ => exact tb_0 79 rfl rfl
  | 2, _ => exact tb_0 81 rfl rfl
  | 3, _ => exact tb_0 83 rfl rfl
  | 4, _ => exact tb_0 85 rfl rfl
  | k + 5, h => exact absurd h (by omega)
theorem inlX8 : ∀ w ∈ wsX80, w ∈ wsL_law := by
  intro w hw
  obtain ⟨k, hk, rfl⟩ := List.mem_map.mp hw
  have hk := List.mem_range.mp hk
  match k, hk with
  | 0, _ => exact tb_1 6 rfl rfl
  | 1, _ => exact tb_1 8 rfl rfl
  | 2, _ => exact tb_1 10 rfl rfl
  | 3, _ => exact tb_1 12 rfl rfl
  | 4, _ => exact tb_1 14 rfl rfl
  | 5, _ => exact tb_1 16 rfl rfl
  | k + 6, h => exact absurd h (by omega)
theorem inlX9 : ∀ w ∈ wsX90, w ∈ wsL_law := by
  intro w hw
  obtain ⟨k, hk, rfl⟩ := List.mem_map.mp hw
  have hk := List.mem_range.mp hk
  match k, hk with
  | 0, _ => exact tb_2 231 rfl rfl
  | 1, _ => exact tb_2 233 rfl rfl
  | 2, _ => exact tb_2 235 rfl rfl
  | 3, _ => exact tb_2 237 rfl rfl
  | 4, _ => exact tb_2 239 rfl rfl
  | 5, _ => exact tb_3 1 rfl rfl
  | 6, _ => exact tb_3 3 rfl rfl
  | 7, _ => exact tb_3 5 rfl rfl
  | 8, _ => exact tb_3 7 rfl rfl
  | 9, _ => exact tb_3 9 rfl rfl
  | 10, _ => exact tb_3 11 rfl rfl
  | 11, _ => exact tb_3 13 rfl rfl
  | 12, _ => exact tb_3 15 rfl rfl
  | 13, _ => exact tb_3 17 rfl rfl
  | k + 14, h => exact absurd h (by omega)
end
section
theorem dX0_init_0 : decode cX0_init 0 = .ok (.aload_n 0, 1) := by decide +kernel
theorem dX0_init_1 : decode cX0_init 1 = .ok (.invokespecial 3, 3) := by decide +kernel
theorem dX0_init_4 : decode cX0_init 4 = .ok (.aload_n 0, 1) := by decide +kernel
theorem dX0_init_5 : decode cX0_init 5 = .ok (.new 9, 3) := by decide +kernel
theorem dX0_init_8 : decode cX0_init 8 = .ok (.dup, 1) := by decide +kernel
theorem dX0_init_9 : decode cX0_init 9 = .ok (.bipush 60, 2) := by decide +kernel
theorem dX0_init_11 : decode cX0_init 11 = .ok (.invokespecial 11, 3) := by decide +kernel
theorem dX0_init_14 : decode cX0_init 14 = .ok (.putfield 14, 3) := by decide +kernel
theorem dX0_init_17 : decode cX0_init 17 = .ok (.aload_n 0, 1) := by decide +kernel
theorem dX0_init_18 : decode cX0_init 18 = .ok (.new 9, 3) := by decide +kernel
theorem dX0_init_21 : decode cX0_init 21 = .ok (.dup, 1) := by decide +kernel
theorem dX0_init_22 : decode cX0_init 22 = .ok (.bipush 60, 2) := by decide +kernel
theorem dX0_init_24 : decode cX0_init 24 = .ok (.invokespecial 11, 3) := by decide +kernel
theorem dX0_init_27 : decode cX0_init 27 = .ok (.putfield 20, 3) := by decide +kernel
theorem dX0_init_30 : decode cX0_init 30 = .ok (.aload_n 0, 1) := by decide +kernel
theorem dX0_init_31 : decode cX0_init 31 = .ok (.new 9, 3) := by decide +kernel
theorem dX0_init_34 : decode cX0_init 34 = .ok (.dup, 1) := by decide +kernel
theorem dX0_init_35 : decode cX0_init 35 = .ok (.bipush 60, 2) := by decide +kernel
theorem dX0_init_37 : decode cX0_init 37 = .ok (.invokespecial 11, 3) := by decide +kernel
theorem dX0_init_40 : decode cX0_init 40 = .ok (.putfield 23, 3) := by decide +kernel
theorem dX0_init_43 : decode cX0_init 43 = .ok (.return_, 1) := by decide +kernel
theorem dX0_cellOf_0 : decode cX0_cellOf 0 = .ok (.aload_n 0, 1) := by decide +kernel
theorem dX0_cellOf_1 : decode cX0_cellOf 1 = .ok (.getfield 26, 3) := by decide +kernel
theorem dX0_cellOf_4 : decode cX0_cellOf 4 = .ok (.iload_n 1, 1) := by decide +kernel
theorem dX0_cellOf_5 : decode cX0_cellOf 5 = .ok (.iadd, 1) := by decide +kernel
theorem dX0_cellOf_6 : decode cX0_cellOf 6 = .ok (.bipush 60, 2) := by decide +kernel
theorem dX0_cellOf_8 : decode cX0_cellOf 8 = .ok (.irem, 1) := by decide +kernel
theorem dX0_cellOf_9 : decode cX0_cellOf 9 = .ok (.ireturn, 1) := by decide +kernel
theorem dX0_append_0 : decode cX0_append 0 = .ok (.aload_n 0, 1) := by decide +kernel
theorem dX0_append_1 : decode cX0_append 1 = .ok (.aload_n 0, 1) := by decide +kernel
theorem dX0_append_2 : decode cX0_append 2 = .ok (.getfield 30, 3) := by decide +kernel
theorem dX0_append_5 : decode cX0_append 5 = .ok (.invokevirtual 33, 3) := by decide +kernel
theorem dX0_append_8 : decode cX0_append 8 = .ok (.istore 4, 2) := by decide +kernel
theorem dX0_append_10 : decode cX0_append 10 = .ok (.aload_n 0, 1) := by decide +kernel
theorem dX0_append_11 : decode cX0_append 11 = .ok (.getfield 14, 3) := by decide +kernel
theorem dX0_append_14 : decode cX0_append 14 = .ok (.iload 4, 2) := by decide +kernel
theorem dX0_append_16 : decode cX0_append 16 = .ok (.iload_n 1, 1) := by decide +kernel
theorem dX0_append_17 : decode cX0_append 17 = .ok (.invokevirtual 37, 3) := by decide +kernel
theorem dX0_append_20 : decode cX0_append 20 = .ok (.aload_n 0, 1) := by decide +kernel
theorem dX0_append_21 : decode cX0_append 21 = .ok (.getfield 20, 3) := by decide +kernel
theorem dX0_append_24 : decode cX0_append 24 = .ok (.iload 4, 2) := by decide +kernel
theorem dX0_append_26 : decode cX0_append 26 = .ok (.iload_n 2, 1) := by decide +kernel
theorem dX0_append_27 : decode cX0_append 27 = .ok (.invokevirtual 37, 3) := by decide +kernel
theorem dX0_append_30 : decode cX0_append 30 = .ok (.aload_n 0, 1) := by decide +kernel
theorem dX0_append_31 : decode cX0_append 31 = .ok (.getfield 23, 3) := by decide +kernel
theorem dX0_append_34 : decode cX0_append 34 = .ok (.iload 4, 2) := by decide +kernel
theorem dX0_append_36 : decode cX0_append 36 = .ok (.iload_n 3, 1) := by decide +kernel
theorem dX0_append_37 : decode cX0_append 37 = .ok (.invokevirtual 37, 3) := by decide +kernel
theorem dX0_append_40 : decode cX0_append 40 = .ok (.aload_n 0, 1) := by decide +kernel
theorem dX0_append_41 : decode cX0_append 41 = .ok (.getfield 30, 3) := by decide +kernel
theorem dX0_append_44 : decode cX0_append 44 = .ok (.bipush 60, 2) := by decide +kernel
theorem dX0_append_46 : decode cX0_append 46 = .ok (.if_icmp .ge 16, 3) := by decide +kernel
theorem dX0_append_49 : decode cX0_append 49 = .ok (.aload_n 0, 1) := by decide +kernel
theorem dX0_append_50 : decode cX0_append 50 = .ok (.dup, 1) := by decide +kernel
theorem dX0_append_51 : decode cX0_append 51 = .ok (.getfield 30, 3) := by decide +kernel
theorem dX0_append_54 : decode cX0_append 54 = .ok (.iconst 1, 1) := by decide +kernel
theorem dX0_append_55 : decode cX0_append 55 = .ok (.iadd, 1) := by decide +kernel
theorem dX0_append_56 : decode cX0_append 56 = .ok (.putfield 30, 3) := by decide +kernel
theorem dX0_append_59 : decode cX0_append 59 = .ok (.goto 12, 3) := by decide +kernel
theorem dX0_append_62 : decode cX0_append 62 = .ok (.aload_n 0, 1) := by decide +kernel
theorem dX0_append_63 : decode cX0_append 63 = .ok (.aload_n 0, 1) := by decide +kernel
theorem dX0_append_64 : decode cX0_append 64 = .ok (.iconst 1, 1) := by decide +kernel
theorem dX0_append_65 : decode cX0_append 65 = .ok (.invokevirtual 33, 3) := by decide +kernel
theorem dX0_append_68 : decode cX0_append 68 = .ok (.putfield 26, 3) := by decide +kernel
theorem dX0_append_71 : decode cX0_append 71 = .ok (.return_, 1) := by decide +kernel
theorem dX0_clear_0 : decode cX0_clear 0 = .ok (.aload_n 0, 1) := by decide +kernel
theorem dX0_clear_1 : decode cX0_clear 1 = .ok (.iconst 0, 1) := by decide +kernel
theorem dX0_clear_2 : decode cX0_clear 2 = .ok (.putfield 26, 3) := by decide +kernel
theorem dX0_clear_5 : decode cX0_clear 5 = .ok (.aload_n 0, 1) := by decide +kernel
theorem dX0_clear_6 : decode cX0_clear 6 = .ok (.iconst 0, 1) := by decide +kernel
theorem dX0_clear_7 : decode cX0_clear 7 = .ok (.putfield 30, 3) := by decide +kernel
theorem dX0_clear_10 : decode cX0_clear 10 = .ok (.return_, 1) := by decide +kernel
theorem dX0_copyFrom_0 : decode cX0_copyFrom 0 = .ok (.aload_n 0, 1) := by decide +kernel
theorem dX0_copyFrom_1 : decode cX0_copyFrom 1 = .ok (.getfield 14, 3) := by decide +kernel
theorem dX0_copyFrom_4 : decode cX0_copyFrom 4 = .ok (.aload_n 1, 1) := by decide +kernel
theorem dX0_copyFrom_5 : decode cX0_copyFrom 5 = .ok (.getfield 14, 3) := by decide +kernel
theorem dX0_copyFrom_8 : decode cX0_copyFrom 8 = .ok (.invokevirtual 41, 3) := by decide +kernel
theorem dX0_copyFrom_11 : decode cX0_copyFrom 11 = .ok (.aload_n 0, 1) := by decide +kernel
theorem dX0_copyFrom_12 : decode cX0_copyFrom 12 = .ok (.getfield 20, 3) := by decide +kernel
theorem dX0_copyFrom_15 : decode cX0_copyFrom 15 = .ok (.aload_n 1, 1) := by decide +kernel
theorem dX0_copyFrom_16 : decode cX0_copyFrom 16 = .ok (.getfield 20, 3) := by decide +kernel
theorem dX0_copyFrom_19 : decode cX0_copyFrom 19 = .ok (.invokevirtual 41, 3) := by decide +kernel
theorem dX0_copyFrom_22 : decode cX0_copyFrom 22 = .ok (.aload_n 0, 1) := by decide +kernel
theorem dX0_copyFrom_23 : decode cX0_copyFrom 23 = .ok (.getfield 23, 3) := by decide +kernel
theorem dX0_copyFrom_26 : decode cX0_copyFrom 26 = .ok (.aload_n 1, 1) := by decide +kernel
theorem dX0_copyFrom_27 : decode cX0_copyFrom 27 = .ok (.getfield 23, 3) := by decide +kernel
theorem dX0_copyFrom_30 : decode cX0_copyFrom 30 = .ok (.invokevirtual 41, 3) := by decide +kernel
theorem dX0_copyFrom_33 : decode cX0_copyFrom 33 = .ok (.aload_n 0, 1) := by decide +kernel
theorem dX0_copyFrom_34 : decode cX0_copyFrom 34 = .ok (.aload_n 1, 1) := by decide +kernel
theorem dX0_copyFrom_35 : decode cX0_copyFrom 35 = .ok (.getfield 26, 3) := by decide +kernel
theorem dX0_copyFrom_38 : decode cX0_copyFrom 38 = .ok (.putfield 26, 3) := by decide +kernel
theorem dX0_copyFrom_41 : decode cX0_copyFrom 41 = .ok (.aload_n 0, 1) := by decide +kernel
theorem dX0_copyFrom_42 : decode cX0_copyFrom 42 = .ok (.aload_n 1, 1) := by decide +kernel
theorem dX0_copyFrom_43 : decode cX0_copyFrom 43 = .ok (.getfield 30, 3) := by decide +kernel
theorem dX0_copyFrom_46 : decode cX0_copyFrom 46 = .ok (.putfield 30, 3) := by decide +kernel
theorem dX0_copyFrom_49 : decode cX0_copyFrom 49 = .ok (.return_, 1) := by decide +kernel
theorem dX1_init_0 : decode cX1_init 0 = .ok (.aload_n 0, 1) := by decide +kernel
theorem dX1_init_1 : decode cX1_init 1 = .ok (.invokespecial 3, 3) := by decide +kernel
theorem dX1_init_4 : decode cX1_init 4 = .ok (.aload_n 0, 1) := by decide +kernel
theorem dX1_init_5 : decode cX1_init 5 = .ok (.new 9, 3) := by decide +kernel
theorem dX1_init_8 : decode cX1_init 8 = .ok (.dup, 1) := by decide +kernel
theorem dX1_init_9 : decode cX1_init 9 = .ok (.bipush 24, 2) := by decide +kernel
theorem dX1_init_11 : decode cX1_init 11 = .ok (.invokespecial 11, 3) := by decide +kernel
theorem dX1_init_14 : decode cX1_init 14 = .ok (.putfield 14, 3) := by decide +kernel
theorem dX1_init_17 : decode cX1_init 17 = .ok (.aload_n 0, 1) := by decide +kernel
theorem dX1_init_18 : decode cX1_init 18 = .ok (.new 9, 3) := by decide +kernel
theorem dX1_init_21 : decode cX1_init 21 = .ok (.dup, 1) := by decide +kernel
theorem dX1_init_22 : decode cX1_init 22 = .ok (.bipush 24, 2) := by decide +kernel
theorem dX1_init_24 : decode cX1_init 24 = .ok (.invokespecial 11, 3) := by decide +kernel
theorem dX1_init_27 : decode cX1_init 27 = .ok (.putfield 20, 3) := by decide +kernel
theorem dX1_init_30 : decode cX1_init 30 = .ok (.return_, 1) := by decide +kernel
theorem dX1_isOwnedBy_0 : decode cX1_isOwnedBy 0 = .ok (.aload_n 0, 1) := by decide +kernel
theorem dX1_isOwnedBy_1 : decode cX1_isOwnedBy 1 = .ok (.getfield 14, 3) := by decide +kernel
theorem dX1_isOwnedBy_4 : decode cX1_isOwnedBy 4 = .ok (.iload_n 1, 1) := by decide +kernel
theorem dX1_isOwnedBy_5 : decode cX1_isOwnedBy 5 = .ok (.invokevirtual 23, 3) := by decide +kernel
theorem dX1_isOwnedBy_8 : decode cX1_isOwnedBy 8 = .ok (.iconst 3, 1) := by decide +kernel
theorem dX1_isOwnedBy_9 : decode cX1_isOwnedBy 9 = .ok (.if_icmp .ne 22, 3) := by decide +kernel
theorem dX1_isOwnedBy_12 : decode cX1_isOwnedBy 12 = .ok (.iload_n 2, 1) := by decide +kernel
theorem dX1_isOwnedBy_13 : decode cX1_isOwnedBy 13 = .ok (.aload_n 0, 1) := by decide +kernel
theorem dX1_isOwnedBy_14 : decode cX1_isOwnedBy 14 = .ok (.getfield 20, 3) := by decide +kernel
theorem dX1_isOwnedBy_17 : decode cX1_isOwnedBy 17 = .ok (.iload_n 1, 1) := by decide +kernel
theorem dX1_isOwnedBy_18 : decode cX1_isOwnedBy 18 = .ok (.invokevirtual 23, 3) := by decide +kernel
theorem dX1_isOwnedBy_21 : decode cX1_isOwnedBy 21 = .ok (.invokestatic 27, 3) := by decide +kernel
theorem dX1_isOwnedBy_24 : decode cX1_isOwnedBy 24 = .ok (.ifCond .eq 7, 3) := by decide +kernel
theorem dX1_isOwnedBy_27 : decode cX1_isOwnedBy 27 = .ok (.iconst 1, 1) := by decide +kernel
theorem dX1_isOwnedBy_28 : decode cX1_isOwnedBy 28 = .ok (.goto 4, 3) := by decide +kernel
theorem dX1_isOwnedBy_31 : decode cX1_isOwnedBy 31 = .ok (.iconst 0, 1) := by decide +kernel
theorem dX1_isOwnedBy_32 : decode cX1_isOwnedBy 32 = .ok (.ireturn, 1) := by decide +kernel
theorem dX1_called_0 : decode cX1_called 0 = .ok (.aload_n 0, 1) := by decide +kernel
theorem dX1_called_1 : decode cX1_called 1 = .ok (.getfield 20, 3) := by decide +kernel
theorem dX1_called_4 : decode cX1_called 4 = .ok (.iload_n 1, 1) := by decide +kernel
theorem dX1_called_5 : decode cX1_called 5 = .ok (.invokevirtual 23, 3) := by decide +kernel
theorem dX1_called_8 : decode cX1_called 8 = .ok (.istore_n 3, 1) := by decide +kernel
theorem dX1_called_9 : decode cX1_called 9 = .ok (.aload_n 0, 1) := by decide +kernel
theorem dX1_called_10 : decode cX1_called 10 = .ok (.getfield 14, 3) := by decide +kernel
theorem dX1_called_13 : decode cX1_called 13 = .ok (.iload_n 1, 1) := by decide +kernel
theorem dX1_called_14 : decode cX1_called 14 = .ok (.invokevirtual 23, 3) := by decide +kernel
theorem dX1_called_17 : decode cX1_called 17 = .ok (.iconst 2, 1) := by decide +kernel
theorem dX1_called_18 : decode cX1_called 18 = .ok (.if_icmp .eq 5, 3) := by decide +kernel
theorem dX1_called_21 : decode cX1_called 21 = .ok (.iload_n 3, 1) := by decide +kernel
theorem dX1_called_22 : decode cX1_called 22 = .ok (.ireturn, 1) := by decide +kernel
theorem dX1_called_23 : decode cX1_called 23 = .ok (.iconst 0, 1) := by decide +kernel
theorem dX1_called_24 : decode cX1_called 24 = .ok (.istore 4, 2) := by decide +kernel
theorem dX1_called_26 : decode cX1_called 26 = .ok (.iconst 0, 1) := by decide +kernel
theorem dX1_called_27 : decode cX1_called 27 = .ok (.istore 5, 2) := by decide +kernel
theorem dX1_called_29 : decode cX1_called 29 = .ok (.iload 5, 2) := by decide +kernel
theorem dX1_called_31 : decode cX1_called 31 = .ok (.bipush 16, 2) := by decide +kernel
theorem dX1_called_33 : decode cX1_called 33 = .ok (.if_icmp .ge 32, 3) := by decide +kernel
theorem dX1_called_36 : decode cX1_called 36 = .ok (.iload 5, 2) := by decide +kernel
theorem dX1_called_38 : decode cX1_called 38 = .ok (.iload_n 2, 1) := by decide +kernel
theorem dX1_called_39 : decode cX1_called 39 = .ok (.invokestatic 31, 3) := by decide +kernel
theorem dX1_called_42 : decode cX1_called 42 = .ok (.iload_n 3, 1) := by decide +kernel
theorem dX1_called_43 : decode cX1_called 43 = .ok (.invokestatic 27, 3) := by decide +kernel
theorem dX1_called_46 : decode cX1_called 46 = .ok (.ifCond .eq 13, 3) := by decide +kernel
theorem dX1_called_49 : decode cX1_called 49 = .ok (.iload 4, 2) := by decide +kernel
theorem dX1_called_51 : decode cX1_called 51 = .ok (.iload 5, 2) := by decide +kernel
theorem dX1_called_53 : decode cX1_called 53 = .ok (.invokestatic 35, 3) := by decide +kernel
theorem dX1_called_56 : decode cX1_called 56 = .ok (.ior, 1) := by decide +kernel
theorem dX1_called_57 : decode cX1_called 57 = .ok (.istore 4, 2) := by decide +kernel
theorem dX1_called_59 : decode cX1_called 59 = .ok (.iinc 5 1, 3) := by decide +kernel
theorem dX1_called_62 : decode cX1_called 62 = .ok (.goto (-33), 3) := by decide +kernel
theorem dX1_called_65 : decode cX1_called 65 = .ok (.iload 4, 2) := by decide +kernel
theorem dX1_called_67 : decode cX1_called 67 = .ok (.ireturn, 1) := by decide +kernel
theorem dX1_become_0 : decode cX1_become 0 = .ok (.aload_n 0, 1) := by decide +kernel
theorem dX1_become_1 : decode cX1_become 1 = .ok (.getfield 14, 3) := by decide +kernel
theorem dX1_become_4 : decode cX1_become 4 = .ok (.iload_n 1, 1) := by decide +kernel
theorem dX1_become_5 : decode cX1_become 5 = .ok (.iload_n 2, 1) := by decide +kernel
theorem dX1_become_6 : decode cX1_become 6 = .ok (.invokevirtual 38, 3) := by decide +kernel
theorem dX1_become_9 : decode cX1_become 9 = .ok (.aload_n 0, 1) := by decide +kernel
theorem dX1_become_10 : decode cX1_become 10 = .ok (.getfield 20, 3) := by decide +kernel
theorem dX1_become_13 : decode cX1_become 13 = .ok (.iload_n 1, 1) := by decide +kernel
theorem dX1_become_14 : decode cX1_become 14 = .ok (.iload_n 3, 1) := by decide +kernel
theorem dX1_become_15 : decode cX1_become 15 = .ok (.invokevirtual 38, 3) := by decide +kernel
theorem dX1_become_18 : decode cX1_become 18 = .ok (.return_, 1) := by decide +kernel
theorem dX1_name_0 : decode cX1_name 0 = .ok (.aload_n 0, 1) := by decide +kernel
theorem dX1_name_1 : decode cX1_name 1 = .ok (.getfield 20, 3) := by decide +kernel
theorem dX1_name_4 : decode cX1_name 4 = .ok (.iload_n 1, 1) := by decide +kernel
theorem dX1_name_5 : decode cX1_name 5 = .ok (.invokevirtual 23, 3) := by decide +kernel
theorem dX1_name_8 : decode cX1_name 8 = .ok (.istore 5, 2) := by decide +kernel
theorem dX1_name_10 : decode cX1_name 10 = .ok (.aload_n 0, 1) := by decide +kernel
theorem dX1_name_11 : decode cX1_name 11 = .ok (.getfield 14, 3) := by decide +kernel
theorem dX1_name_14 : decode cX1_name 14 = .ok (.iload_n 1, 1) := by decide +kernel
theorem dX1_name_15 : decode cX1_name 15 = .ok (.invokevirtual 23, 3) := by decide +kernel
theorem dX1_name_18 : decode cX1_name 18 = .ok (.iconst 2, 1) := by decide +kernel
theorem dX1_name_19 : decode cX1_name 19 = .ok (.if_icmp .ne 26, 3) := by decide +kernel
theorem dX1_name_22 : decode cX1_name 22 = .ok (.aload_n 0, 1) := by decide +kernel
theorem dX1_name_23 : decode cX1_name 23 = .ok (.getfield 20, 3) := by decide +kernel
theorem dX1_name_26 : decode cX1_name 26 = .ok (.iload_n 1, 1) := by decide +kernel
theorem dX1_name_27 : decode cX1_name 27 = .ok (.iload 5, 2) := by decide +kernel
theorem dX1_name_29 : decode cX1_name 29 = .ok (.iload_n 2, 1) := by decide +kernel
theorem dX1_name_30 : decode cX1_name 30 = .ok (.iload 4, 2) := by decide +kernel
theorem dX1_name_32 : decode cX1_name 32 = .ok (.invokestatic 31, 3) := by decide +kernel
theorem dX1_name_35 : decode cX1_name 35 = .ok (.invokestatic 35, 3) := by decide +kernel
theorem dX1_name_38 : decode cX1_name 38 = .ok (.ior, 1) := by decide +kernel
theorem dX1_name_39 : decode cX1_name 39 = .ok (.invokevirtual 38, 3) := by decide +kernel
theorem dX1_name_42 : decode cX1_name 42 = .ok (.goto 55, 3) := by decide +kernel
theorem dX1_name_45 : decode cX1_name 45 = .ok (.iload_n 2, 1) := by decide +kernel
theorem dX1_name_46 : decode cX1_name 46 = .ok (.iload 5, 2) := by decide +kernel
theorem dX1_name_48 : decode cX1_name 48 = .ok (.invokestatic 27, 3) := by decide +kernel
theorem dX1_name_51 : decode cX1_name 51 = .ok (.ifCond .ne 12, 3) := by decide +kernel
theorem dX1_name_54 : decode cX1_name 54 = .ok (.iload 5, 2) := by decide +kernel
theorem dX1_name_56 : decode cX1_name 56 = .ok (.invokestatic 42, 3) := by decide +kernel
theorem dX1_name_59 : decode cX1_name 59 = .ok (.iload_n 3, 1) := by decide +kernel
theorem dX1_name_60 : decode cX1_name 60 = .ok (.if_icmp .ge 19, 3) := by decide +kernel
theorem dX1_name_63 : decode cX1_name 63 = .ok (.aload_n 0, 1) := by decide +kernel
theorem dX1_name_64 : decode cX1_name 64 = .ok (.iload_n 1, 1) := by decide +kernel
theorem dX1_name_65 : decode cX1_name 65 = .ok (.iconst 1, 1) := by decide +kernel
theorem dX1_name_66 : decode cX1_name 66 = .ok (.iload 5, 2) := by decide +kernel
theorem dX1_name_68 : decode cX1_name 68 = .ok (.iload_n 2, 1) := by decide +kernel
theorem dX1_name_69 : decode cX1_name 69 = .ok (.invokestatic 35, 3) := by decide +kernel
theorem dX1_name_72 : decode cX1_name 72 = .ok (.ior, 1) := by decide +kernel
theorem dX1_name_73 : decode cX1_name 73 = .ok (.invokevirtual 47, 3) := by decide +kernel
theorem dX1_name_76 : decode cX1_name 76 = .ok (.goto 21, 3) := by decide +kernel
theorem dX1_name_79 : decode cX1_name 79 = .ok (.aload_n 0, 1) := by decide +kernel
theorem dX1_name_80 : decode cX1_name 80 = .ok (.iload_n 1, 1) := by decide +kernel
theorem dX1_name_81 : decode cX1_name 81 = .ok (.iconst 2, 1) := by decide +kernel
theorem dX1_name_82 : decode cX1_name 82 = .ok (.iload 5, 2) := by decide +kernel
theorem dX1_name_84 : decode cX1_name 84 = .ok (.iload_n 2, 1) := by decide +kernel
theorem dX1_name_85 : decode cX1_name 85 = .ok (.invokestatic 35, 3) := by decide +kernel
theorem dX1_name_88 : decode cX1_name 88 = .ok (.ior, 1) := by decide +kernel
theorem dX1_name_89 : decode cX1_name 89 = .ok (.iload 4, 2) := by decide +kernel
theorem dX1_name_91 : decode cX1_name 91 = .ok (.invokestatic 51, 3) := by decide +kernel
theorem dX1_name_94 : decode cX1_name 94 = .ok (.invokevirtual 47, 3) := by decide +kernel
theorem dX1_name_97 : decode cX1_name 97 = .ok (.return_, 1) := by decide +kernel
theorem dX1_strike_0 : decode cX1_strike 0 = .ok (.aload_n 0, 1) := by decide +kernel
theorem dX1_strike_1 : decode cX1_strike 1 = .ok (.getfield 14, 3) := by decide +kernel
theorem dX1_strike_4 : decode cX1_strike 4 = .ok (.iload_n 1, 1) := by decide +kernel
theorem dX1_strike_5 : decode cX1_strike 5 = .ok (.invokevirtual 23, 3) := by decide +kernel
theorem dX1_strike_8 : decode cX1_strike 8 = .ok (.iconst 2, 1) := by decide +kernel
theorem dX1_strike_9 : decode cX1_strike 9 = .ok (.if_icmp .ne 4, 3) := by decide +kernel
theorem dX1_strike_12 : decode cX1_strike 12 = .ok (.return_, 1) := by decide +kernel
theorem dX1_strike_13 : decode cX1_strike 13 = .ok (.aload_n 0, 1) := by decide +kernel
theorem dX1_strike_14 : decode cX1_strike 14 = .ok (.getfield 20, 3) := by decide +kernel
theorem dX1_strike_17 : decode cX1_strike 17 = .ok (.iload_n 1, 1) := by decide +kernel
theorem dX1_strike_18 : decode cX1_strike 18 = .ok (.invokevirtual 23, 3) := by decide +kernel
theorem dX1_strike_21 : decode cX1_strike 21 = .ok (.iload_n 2, 1) := by decide +kernel
theorem dX1_strike_22 : decode cX1_strike 22 = .ok (.invokestatic 35, 3) := by decide +kernel
theorem dX1_strike_25 : decode cX1_strike 25 = .ok (.iconst (-1), 1) := by decide +kernel
theorem dX1_strike_26 : decode cX1_strike 26 = .ok (.ixor, 1) := by decide +kernel
theorem dX1_strike_27 : decode cX1_strike 27 = .ok (.iand, 1) := by decide +kernel
theorem dX1_strike_28 : decode cX1_strike 28 = .ok (.istore_n 3, 1) := by decide +kernel
theorem dX1_strike_29 : decode cX1_strike 29 = .ok (.aload_n 0, 1) := by decide +kernel
theorem dX1_strike_30 : decode cX1_strike 30 = .ok (.getfield 20, 3) := by decide +kernel
theorem dX1_strike_33 : decode cX1_strike 33 = .ok (.iload_n 1, 1) := by decide +kernel
theorem dX1_strike_34 : decode cX1_strike 34 = .ok (.iload_n 3, 1) := by decide +kernel
theorem dX1_strike_35 : decode cX1_strike 35 = .ok (.invokevirtual 38, 3) := by decide +kernel
theorem dX1_strike_38 : decode cX1_strike 38 = .ok (.iload_n 3, 1) := by decide +kernel
theorem dX1_strike_39 : decode cX1_strike 39 = .ok (.ifCond .ne 12, 3) := by decide +kernel
theorem dX1_strike_42 : decode cX1_strike 42 = .ok (.aload_n 0, 1) := by decide +kernel
theorem dX1_strike_43 : decode cX1_strike 43 = .ok (.getfield 14, 3) := by decide +kernel
theorem dX1_strike_46 : decode cX1_strike 46 = .ok (.iload_n 1, 1) := by decide +kernel
theorem dX1_strike_47 : decode cX1_strike 47 = .ok (.iconst 0, 1) := by decide +kernel
theorem dX1_strike_48 : decode cX1_strike 48 = .ok (.invokevirtual 38, 3) := by decide +kernel
theorem dX1_strike_51 : decode cX1_strike 51 = .ok (.return_, 1) := by decide +kernel
theorem dX1_howManyInUse_0 : decode cX1_howManyInUse 0 = .ok (.iconst 0, 1) := by decide +kernel
theorem dX1_howManyInUse_1 : decode cX1_howManyInUse 1 = .ok (.istore_n 1, 1) := by decide +kernel
theorem dX1_howManyInUse_2 : decode cX1_howManyInUse 2 = .ok (.iconst 0, 1) := by decide +kernel
theorem dX1_howManyInUse_3 : decode cX1_howManyInUse 3 = .ok (.istore_n 2, 1) := by decide +kernel
theorem dX1_howManyInUse_4 : decode cX1_howManyInUse 4 = .ok (.iload_n 2, 1) := by decide +kernel
theorem dX1_howManyInUse_5 : decode cX1_howManyInUse 5 = .ok (.bipush 24, 2) := by decide +kernel
theorem dX1_howManyInUse_7 : decode cX1_howManyInUse 7 = .ok (.if_icmp .ge 28, 3) := by decide +kernel
theorem dX1_howManyInUse_10 : decode cX1_howManyInUse 10 = .ok (.iload_n 1, 1) := by decide +kernel
theorem dX1_howManyInUse_11 : decode cX1_howManyInUse 11 = .ok (.aload_n 0, 1) := by decide +kernel
theorem dX1_howManyInUse_12 : decode cX1_howManyInUse 12 = .ok (.getfield 14, 3) := by decide +kernel
theorem dX1_howManyInUse_15 : decode cX1_howManyInUse 15 = .ok (.iload_n 2, 1) := by decide +kernel
theorem dX1_howManyInUse_16 : decode cX1_howManyInUse 16 = .ok (.invokevirtual 23, 3) := by decide +kernel
theorem dX1_howManyInUse_19 : decode cX1_howManyInUse 19 = .ok (.ifCond .ne 7, 3) := by decide +kernel
theorem dX1_howManyInUse_22 : decode cX1_howManyInUse 22 = .ok (.iconst 0, 1) := by decide +kernel
theorem dX1_howManyInUse_23 : decode cX1_howManyInUse 23 = .ok (.goto 4, 3) := by decide +kernel
theorem dX1_howManyInUse_26 : decode cX1_howManyInUse 26 = .ok (.iconst 1, 1) := by decide +kernel
theorem dX1_howManyInUse_27 : decode cX1_howManyInUse 27 = .ok (.iadd, 1) := by decide +kernel
theorem dX1_howManyInUse_28 : decode cX1_howManyInUse 28 = .ok (.istore_n 1, 1) := by decide +kernel
theorem dX1_howManyInUse_29 : decode cX1_howManyInUse 29 = .ok (.iinc 2 1, 3) := by decide +kernel
theorem dX1_howManyInUse_32 : decode cX1_howManyInUse 32 = .ok (.goto (-28), 3) := by decide +kernel
theorem dX1_howManyInUse_35 : decode cX1_howManyInUse 35 = .ok (.iload_n 1, 1) := by decide +kernel
theorem dX1_howManyInUse_36 : decode cX1_howManyInUse 36 = .ok (.ireturn, 1) := by decide +kernel
theorem dX1_howManyGrouped_0 : decode cX1_howManyGrouped 0 = .ok (.iconst 0, 1) := by decide +kernel
theorem dX1_howManyGrouped_1 : decode cX1_howManyGrouped 1 = .ok (.istore_n 1, 1) := by decide +kernel
theorem dX1_howManyGrouped_2 : decode cX1_howManyGrouped 2 = .ok (.iconst 0, 1) := by decide +kernel
theorem dX1_howManyGrouped_3 : decode cX1_howManyGrouped 3 = .ok (.istore_n 2, 1) := by decide +kernel
theorem dX1_howManyGrouped_4 : decode cX1_howManyGrouped 4 = .ok (.iload_n 2, 1) := by decide +kernel
theorem dX1_howManyGrouped_5 : decode cX1_howManyGrouped 5 = .ok (.bipush 24, 2) := by decide +kernel
theorem dX1_howManyGrouped_7 : decode cX1_howManyGrouped 7 = .ok (.if_icmp .ge 29, 3) := by decide +kernel
theorem dX1_howManyGrouped_10 : decode cX1_howManyGrouped 10 = .ok (.iload_n 1, 1) := by decide +kernel
theorem dX1_howManyGrouped_11 : decode cX1_howManyGrouped 11 = .ok (.aload_n 0, 1) := by decide +kernel
theorem dX1_howManyGrouped_12 : decode cX1_howManyGrouped 12 = .ok (.getfield 14, 3) := by decide +kernel
theorem dX1_howManyGrouped_15 : decode cX1_howManyGrouped 15 = .ok (.iload_n 2, 1) := by decide +kernel
theorem dX1_howManyGrouped_16 : decode cX1_howManyGrouped 16 = .ok (.invokevirtual 23, 3) := by decide +kernel
theorem dX1_howManyGrouped_19 : decode cX1_howManyGrouped 19 = .ok (.iconst 2, 1) := by decide +kernel
theorem dX1_howManyGrouped_20 : decode cX1_howManyGrouped 20 = .ok (.if_icmp .ne 7, 3) := by decide +kernel
theorem dX1_howManyGrouped_23 : decode cX1_howManyGrouped 23 = .ok (.iconst 1, 1) := by decide +kernel
theorem dX1_howManyGrouped_24 : decode cX1_howManyGrouped 24 = .ok (.goto 4, 3) := by decide +kernel
theorem dX1_howManyGrouped_27 : decode cX1_howManyGrouped 27 = .ok (.iconst 0, 1) := by decide +kernel
theorem dX1_howManyGrouped_28 : decode cX1_howManyGrouped 28 = .ok (.iadd, 1) := by decide +kernel
theorem dX1_howManyGrouped_29 : decode cX1_howManyGrouped 29 = .ok (.istore_n 1, 1) := by decide +kernel
theorem dX1_howManyGrouped_30 : decode cX1_howManyGrouped 30 = .ok (.iinc 2 1, 3) := by decide +kernel
theorem dX1_howManyGrouped_33 : decode cX1_howManyGrouped 33 = .ok (.goto (-29), 3) := by decide +kernel
theorem dX1_howManyGrouped_36 : decode cX1_howManyGrouped 36 = .ok (.iload_n 1, 1) := by decide +kernel
theorem dX1_howManyGrouped_37 : decode cX1_howManyGrouped 37 = .ok (.ireturn, 1) := by decide +kernel
theorem dX1_clear_0 : decode cX1_clear 0 = .ok (.aload_n 0, 1) := by decide +kernel
theorem dX1_clear_1 : decode cX1_clear 1 = .ok (.getfield 14, 3) := by decide +kernel
theorem dX1_clear_4 : decode cX1_clear 4 = .ok (.invokevirtual 54, 3) := by decide +kernel
theorem dX1_clear_7 : decode cX1_clear 7 = .ok (.aload_n 0, 1) := by decide +kernel
theorem dX1_clear_8 : decode cX1_clear 8 = .ok (.getfield 20, 3) := by decide +kernel
theorem dX1_clear_11 : decode cX1_clear 11 = .ok (.invokevirtual 54, 3) := by decide +kernel
theorem dX1_clear_14 : decode cX1_clear 14 = .ok (.return_, 1) := by decide +kernel
theorem dX1_copyFrom_0 : decode cX1_copyFrom 0 = .ok (.aload_n 0, 1) := by decide +kernel
theorem dX1_copyFrom_1 : decode cX1_copyFrom 1 = .ok (.getfield 14, 3) := by decide +kernel
theorem dX1_copyFrom_4 : decode cX1_copyFrom 4 = .ok (.aload_n 1, 1) := by decide +kernel
theorem dX1_copyFrom_5 : decode cX1_copyFrom 5 = .ok (.getfield 14, 3) := by decide +kernel
theorem dX1_copyFrom_8 : decode cX1_copyFrom 8 = .ok (.invokevirtual 57, 3) := by decide +kernel
theorem dX1_copyFrom_11 : decode cX1_copyFrom 11 = .ok (.aload_n 0, 1) := by decide +kernel
theorem dX1_copyFrom_12 : decode cX1_copyFrom 12 = .ok (.getfield 20, 3) := by decide +kernel
theorem dX1_copyFrom_15 : decode cX1_copyFrom 15 = .ok (.aload_n 1, 1) := by decide +kernel
theorem dX1_copyFrom_16 : decode cX1_copyFrom 16 = .ok (.getfield 20, 3) := by decide +kernel
theorem dX1_copyFrom_19 : decode cX1_copyFrom 19 = .ok (.invokevirtual 57, 3) := by decide +kernel
theorem dX1_copyFrom_22 : decode cX1_copyFrom 22 = .ok (.return_, 1) := by decide +kernel
theorem dX1_groupsOf_0 : decode cX1_groupsOf 0 = .ok (.iconst 0, 1) := by decide +kernel
theorem dX1_groupsOf_1 : decode cX1_groupsOf 1 = .ok (.istore_n 2, 1) := by decide +kernel
theorem dX1_groupsOf_2 : decode cX1_groupsOf 2 = .ok (.iconst 0, 1) := by decide +kernel
theorem dX1_groupsOf_3 : decode cX1_groupsOf 3 = .ok (.istore_n 3, 1) := by decide +kernel
theorem dX1_groupsOf_4 : decode cX1_groupsOf 4 = .ok (.iload_n 3, 1) := by decide +kernel
theorem dX1_groupsOf_5 : decode cX1_groupsOf 5 = .ok (.bipush 16, 2) := by decide +kernel
theorem dX1_groupsOf_7 : decode cX1_groupsOf 7 = .ok (.if_icmp .ge 28, 3) := by decide +kernel
theorem dX1_groupsOf_10 : decode cX1_groupsOf 10 = .ok (.iload_n 3, 1) := by decide +kernel
theorem dX1_groupsOf_11 : decode cX1_groupsOf 11 = .ok (.iload_n 0, 1) := by decide +kernel
theorem dX1_groupsOf_12 : decode cX1_groupsOf 12 = .ok (.invokestatic 27, 3) := by decide +kernel
theorem dX1_groupsOf_15 : decode cX1_groupsOf 15 = .ok (.ifCond .eq 14, 3) := by decide +kernel
theorem dX1_groupsOf_18 : decode cX1_groupsOf 18 = .ok (.iload_n 2, 1) := by decide +kernel
theorem dX1_groupsOf_19 : decode cX1_groupsOf 19 = .ok (.iload_n 3, 1) := by decide +kernel
theorem dX1_groupsOf_20 : decode cX1_groupsOf 20 = .ok (.iload_n 1, 1) := by decide +kernel
theorem dX1_groupsOf_21 : decode cX1_groupsOf 21 = .ok (.invokestatic 31, 3) := by decide +kernel
theorem dX1_groupsOf_24 : decode cX1_groupsOf 24 = .ok (.invokestatic 35, 3) := by decide +kernel
theorem dX1_groupsOf_27 : decode cX1_groupsOf 27 = .ok (.ior, 1) := by decide +kernel
theorem dX1_groupsOf_28 : decode cX1_groupsOf 28 = .ok (.istore_n 2, 1) := by decide +kernel
theorem dX1_groupsOf_29 : decode cX1_groupsOf 29 = .ok (.iinc 3 1, 3) := by decide +kernel
theorem dX1_groupsOf_32 : decode cX1_groupsOf 32 = .ok (.goto (-28), 3) := by decide +kernel
theorem dX1_groupsOf_35 : decode cX1_groupsOf 35 = .ok (.iload_n 2, 1) := by decide +kernel
theorem dX1_groupsOf_36 : decode cX1_groupsOf 36 = .ok (.ireturn, 1) := by decide +kernel
theorem dX2_init_0 : decode cX2_init 0 = .ok (.aload_n 0, 1) := by decide +kernel
theorem dX2_init_1 : decode cX2_init 1 = .ok (.invokespecial 3, 3) := by decide +kernel
theorem dX2_init_4 : decode cX2_init 4 = .ok (.aload_n 0, 1) := by decide +kernel
theorem dX2_init_5 : decode cX2_init 5 = .ok (.bipush 6, 2) := by decide +kernel
theorem dX2_init_7 : decode cX2_init 7 = .ok (.anewarray 9, 3) := by decide +kernel
theorem dX2_init_10 : decode cX2_init 10 = .ok (.putfield 11, 3) := by decide +kernel
theorem dX2_init_13 : decode cX2_init 13 = .ok (.iconst 0, 1) := by decide +kernel
theorem dX2_init_14 : decode cX2_init 14 = .ok (.istore_n 1, 1) := by decide +kernel
theorem dX2_init_15 : decode cX2_init 15 = .ok (.iload_n 1, 1) := by decide +kernel
theorem dX2_init_16 : decode cX2_init 16 = .ok (.aload_n 0, 1) := by decide +kernel
theorem dX2_init_17 : decode cX2_init 17 = .ok (.getfield 11, 3) := by decide +kernel
theorem dX2_init_20 : decode cX2_init 20 = .ok (.arraylength, 1) := by decide +kernel
theorem dX2_init_21 : decode cX2_init 21 = .ok (.if_icmp .ge 22, 3) := by decide +kernel
theorem dX2_init_24 : decode cX2_init 24 = .ok (.aload_n 0, 1) := by decide +kernel
theorem dX2_init_25 : decode cX2_init 25 = .ok (.getfield 11, 3) := by decide +kernel
theorem dX2_init_28 : decode cX2_init 28 = .ok (.iload_n 1, 1) := by decide +kernel
theorem dX2_init_29 : decode cX2_init 29 = .ok (.new 9, 3) := by decide +kernel
theorem dX2_init_32 : decode cX2_init 32 = .ok (.dup, 1) := by decide +kernel
theorem dX2_init_33 : decode cX2_init 33 = .ok (.invokespecial 17, 3) := by decide +kernel
theorem dX2_init_36 : decode cX2_init 36 = .ok (.aastore, 1) := by decide +kernel
theorem dX2_init_37 : decode cX2_init 37 = .ok (.iinc 1 1, 3) := by decide +kernel
theorem dX2_init_40 : decode cX2_init 40 = .ok (.goto (-25), 3) := by decide +kernel
theorem dX2_init_43 : decode cX2_init 43 = .ok (.return_, 1) := by decide +kernel
theorem dX2_keep_0 : decode cX2_keep 0 = .ok (.aload_n 0, 1) := by decide +kernel
theorem dX2_keep_1 : decode cX2_keep 1 = .ok (.getfield 18, 3) := by decide +kernel
theorem dX2_keep_4 : decode cX2_keep 4 = .ok (.bipush 6, 2) := by decide +kernel
theorem dX2_keep_6 : decode cX2_keep 6 = .ok (.if_icmp .lt 26, 3) := by decide +kernel
theorem dX2_keep_9 : decode cX2_keep 9 = .ok (.aload_n 0, 1) := by decide +kernel
theorem dX2_keep_10 : decode cX2_keep 10 = .ok (.aload_n 0, 1) := by decide +kernel
theorem dX2_keep_11 : decode cX2_keep 11 = .ok (.getfield 22, 3) := by decide +kernel
theorem dX2_keep_14 : decode cX2_keep 14 = .ok (.iconst 1, 1) := by decide +kernel
theorem dX2_keep_15 : decode cX2_keep 15 = .ok (.iadd, 1) := by decide +kernel
theorem dX2_keep_16 : decode cX2_keep 16 = .ok (.bipush 6, 2) := by decide +kernel
theorem dX2_keep_18 : decode cX2_keep 18 = .ok (.irem, 1) := by decide +kernel
theorem dX2_keep_19 : decode cX2_keep 19 = .ok (.putfield 22, 3) := by decide +kernel
theorem dX2_keep_22 : decode cX2_keep 22 = .ok (.aload_n 0, 1) := by decide +kernel
theorem dX2_keep_23 : decode cX2_keep 23 = .ok (.dup, 1) := by decide +kernel
theorem dX2_keep_24 : decode cX2_keep 24 = .ok (.getfield 18, 3) := by decide +kernel
theorem dX2_keep_27 : decode cX2_keep 27 = .ok (.iconst 1, 1) := by decide +kernel
theorem dX2_keep_28 : decode cX2_keep 28 = .ok (.isub, 1) := by decide +kernel
theorem dX2_keep_29 : decode cX2_keep 29 = .ok (.putfield 18, 3) := by decide +kernel
theorem dX2_keep_32 : decode cX2_keep 32 = .ok (.aload_n 0, 1) := by decide +kernel
theorem dX2_keep_33 : decode cX2_keep 33 = .ok (.aload_n 0, 1) := by decide +kernel
theorem dX2_keep_34 : decode cX2_keep 34 = .ok (.getfield 18, 3) := by decide +kernel
theorem dX2_keep_37 : decode cX2_keep 37 = .ok (.invokevirtual 25, 3) := by decide +kernel
theorem dX2_keep_40 : decode cX2_keep 40 = .ok (.astore_n 2, 1) := by decide +kernel
theorem dX2_keep_41 : decode cX2_keep 41 = .ok (.aload_n 2, 1) := by decide +kernel
theorem dX2_keep_42 : decode cX2_keep 42 = .ok (.ifnull 18, 3) := by decide +kernel
theorem dX2_keep_45 : decode cX2_keep 45 = .ok (.aload_n 2, 1) := by decide +kernel
theorem dX2_keep_46 : decode cX2_keep 46 = .ok (.aload_n 1, 1) := by decide +kernel
theorem dX2_keep_47 : decode cX2_keep 47 = .ok (.invokevirtual 29, 3) := by decide +kernel
theorem dX2_keep_50 : decode cX2_keep 50 = .ok (.aload_n 0, 1) := by decide +kernel
theorem dX2_keep_51 : decode cX2_keep 51 = .ok (.dup, 1) := by decide +kernel
theorem dX2_keep_52 : decode cX2_keep 52 = .ok (.getfield 18, 3) := by decide +kernel
theorem dX2_keep_55 : decode cX2_keep 55 = .ok (.iconst 1, 1) := by decide +kernel
theorem dX2_keep_56 : decode cX2_keep 56 = .ok (.iadd, 1) := by decide +kernel
theorem dX2_keep_57 : decode cX2_keep 57 = .ok (.putfield 18, 3) := by decide +kernel
theorem dX2_keep_60 : decode cX2_keep 60 = .ok (.return_, 1) := by decide +kernel
theorem dX2_takeBack_0 : decode cX2_takeBack 0 = .ok (.aload_n 0, 1) := by decide +kernel
theorem dX2_takeBack_1 : decode cX2_takeBack 1 = .ok (.getfield 18, 3) := by decide +kernel
theorem dX2_takeBack_4 : decode cX2_takeBack 4 = .ok (.ifCond .le 16, 3) := by decide +kernel
theorem dX2_takeBack_7 : decode cX2_takeBack 7 = .ok (.aload_n 0, 1) := by decide +kernel
theorem dX2_takeBack_8 : decode cX2_takeBack 8 = .ok (.aload_n 0, 1) := by decide +kernel
theorem dX2_takeBack_9 : decode cX2_takeBack 9 = .ok (.getfield 18, 3) := by decide +kernel
theorem dX2_takeBack_12 : decode cX2_takeBack 12 = .ok (.iconst 1, 1) := by decide +kernel
theorem dX2_takeBack_13 : decode cX2_takeBack 13 = .ok (.isub, 1) := by decide +kernel
theorem dX2_takeBack_14 : decode cX2_takeBack 14 = .ok (.invokevirtual 25, 3) := by decide +kernel
theorem dX2_takeBack_17 : decode cX2_takeBack 17 = .ok (.goto 4, 3) := by decide +kernel
theorem dX2_takeBack_20 : decode cX2_takeBack 20 = .ok (.aconst_null, 1) := by decide +kernel
theorem dX2_takeBack_21 : decode cX2_takeBack 21 = .ok (.astore_n 2, 1) := by decide +kernel
theorem dX2_takeBack_22 : decode cX2_takeBack 22 = .ok (.aload_n 2, 1) := by decide +kernel
theorem dX2_takeBack_23 : decode cX2_takeBack 23 = .ok (.ifnonnull 5, 3) := by decide +kernel
theorem dX2_takeBack_26 : decode cX2_takeBack 26 = .ok (.iconst 0, 1) := by decide +kernel
theorem dX2_takeBack_27 : decode cX2_takeBack 27 = .ok (.ireturn, 1) := by decide +kernel
theorem dX2_takeBack_28 : decode cX2_takeBack 28 = .ok (.aload_n 1, 1) := by decide +kernel
theorem dX2_takeBack_29 : decode cX2_takeBack 29 = .ok (.aload_n 2, 1) := by decide +kernel
theorem dX2_takeBack_30 : decode cX2_takeBack 30 = .ok (.invokevirtual 29, 3) := by decide +kernel
theorem dX2_takeBack_33 : decode cX2_takeBack 33 = .ok (.aload_n 0, 1) := by decide +kernel
theorem dX2_takeBack_34 : decode cX2_takeBack 34 = .ok (.dup, 1) := by decide +kernel
theorem dX2_takeBack_35 : decode cX2_takeBack 35 = .ok (.getfield 18, 3) := by decide +kernel
theorem dX2_takeBack_38 : decode cX2_takeBack 38 = .ok (.iconst 1, 1) := by decide +kernel
theorem dX2_takeBack_39 : decode cX2_takeBack 39 = .ok (.isub, 1) := by decide +kernel
theorem dX2_takeBack_40 : decode cX2_takeBack 40 = .ok (.putfield 18, 3) := by decide +kernel
theorem dX2_takeBack_43 : decode cX2_takeBack 43 = .ok (.iconst 1, 1) := by decide +kernel
theorem dX2_takeBack_44 : decode cX2_takeBack 44 = .ok (.ireturn, 1) := by decide +kernel
theorem dX2_stateAt_0 : decode cX2_stateAt 0 = .ok (.aload_n 0, 1) := by decide +kernel
theorem dX2_stateAt_1 : decode cX2_stateAt 1 = .ok (.getfield 22, 3) := by decide +kernel
theorem dX2_stateAt_4 : decode cX2_stateAt 4 = .ok (.iload_n 1, 1) := by decide +kernel
theorem dX2_stateAt_5 : decode cX2_stateAt 5 = .ok (.iadd, 1) := by decide +kernel
theorem dX2_stateAt_6 : decode cX2_stateAt 6 = .ok (.bipush 6, 2) := by decide +kernel
theorem dX2_stateAt_8 : decode cX2_stateAt 8 = .ok (.irem, 1) := by decide +kernel
theorem dX2_stateAt_9 : decode cX2_stateAt 9 = .ok (.istore_n 2, 1) := by decide +kernel
theorem dX2_stateAt_10 : decode cX2_stateAt 10 = .ok (.iload_n 2, 1) := by decide +kernel
theorem dX2_stateAt_11 : decode cX2_stateAt 11 = .ok (.ifCond .lt 21, 3) := by decide +kernel
theorem dX2_stateAt_14 : decode cX2_stateAt 14 = .ok (.iload_n 2, 1) := by decide +kernel
theorem dX2_stateAt_15 : decode cX2_stateAt 15 = .ok (.aload_n 0, 1) := by decide +kernel
theorem dX2_stateAt_16 : decode cX2_stateAt 16 = .ok (.getfield 11, 3) := by decide +kernel
theorem dX2_stateAt_19 : decode cX2_stateAt 19 = .ok (.arraylength, 1) := by decide +kernel
theorem dX2_stateAt_20 : decode cX2_stateAt 20 = .ok (.if_icmp .ge 12, 3) := by decide +kernel
theorem dX2_stateAt_23 : decode cX2_stateAt 23 = .ok (.aload_n 0, 1) := by decide +kernel
theorem dX2_stateAt_24 : decode cX2_stateAt 24 = .ok (.getfield 11, 3) := by decide +kernel
theorem dX2_stateAt_27 : decode cX2_stateAt 27 = .ok (.iload_n 2, 1) := by decide +kernel
theorem dX2_stateAt_28 : decode cX2_stateAt 28 = .ok (.aaload, 1) := by decide +kernel
theorem dX2_stateAt_29 : decode cX2_stateAt 29 = .ok (.goto 4, 3) := by decide +kernel
theorem dX2_stateAt_32 : decode cX2_stateAt 32 = .ok (.aconst_null, 1) := by decide +kernel
theorem dX2_stateAt_33 : decode cX2_stateAt 33 = .ok (.areturn, 1) := by decide +kernel
theorem dX3_init_0 : decode cX3_init 0 = .ok (.aload_n 0, 1) := by decide +kernel
theorem dX3_init_1 : decode cX3_init 1 = .ok (.invokespecial 3, 3) := by decide +kernel
theorem dX3_init_4 : decode cX3_init 4 = .ok (.aload_n 0, 1) := by decide +kernel
theorem dX3_init_5 : decode cX3_init 5 = .ok (.new 9, 3) := by decide +kernel
theorem dX3_init_8 : decode cX3_init 8 = .ok (.dup, 1) := by decide +kernel
theorem dX3_init_9 : decode cX3_init 9 = .ok (.getstatic 11, 3) := by decide +kernel
theorem dX3_init_12 : decode cX3_init 12 = .ok (.arraylength, 1) := by decide +kernel
theorem dX3_init_13 : decode cX3_init 13 = .ok (.invokespecial 15, 3) := by decide +kernel
theorem dX3_init_16 : decode cX3_init 16 = .ok (.putfield 18, 3) := by decide +kernel
theorem dX3_init_19 : decode cX3_init 19 = .ok (.aload_n 0, 1) := by decide +kernel
theorem dX3_init_20 : decode cX3_init 20 = .ok (.new 9, 3) := by decide +kernel
theorem dX3_init_23 : decode cX3_init 23 = .ok (.dup, 1) := by decide +kernel
theorem dX3_init_24 : decode cX3_init 24 = .ok (.bipush 24, 2) := by decide +kernel
theorem dX3_init_26 : decode cX3_init 26 = .ok (.invokespecial 15, 3) := by decide +kernel
theorem dX3_init_29 : decode cX3_init 29 = .ok (.putfield 24, 3) := by decide +kernel
theorem dX3_init_32 : decode cX3_init 32 = .ok (.aload_n 0, 1) := by decide +kernel
theorem dX3_init_33 : decode cX3_init 33 = .ok (.new 27, 3) := by decide +kernel
theorem dX3_init_36 : decode cX3_init 36 = .ok (.dup, 1) := by decide +kernel
theorem dX3_init_37 : decode cX3_init 37 = .ok (.invokespecial 29, 3) := by decide +kernel
theorem dX3_init_40 : decode cX3_init 40 = .ok (.putfield 30, 3) := by decide +kernel
theorem dX3_init_43 : decode cX3_init 43 = .ok (.aload_n 0, 1) := by decide +kernel
theorem dX3_init_44 : decode cX3_init 44 = .ok (.new 34, 3) := by decide +kernel
theorem dX3_init_47 : decode cX3_init 47 = .ok (.dup, 1) := by decide +kernel
theorem dX3_init_48 : decode cX3_init 48 = .ok (.invokespecial 36, 3) := by decide +kernel
theorem dX3_init_51 : decode cX3_init 51 = .ok (.putfield 37, 3) := by decide +kernel
theorem dX3_init_54 : decode cX3_init 54 = .ok (.aload_n 0, 1) := by decide +kernel
theorem dX3_init_55 : decode cX3_init 55 = .ok (.new 41, 3) := by decide +kernel
theorem dX3_init_58 : decode cX3_init 58 = .ok (.dup, 1) := by decide +kernel
theorem dX3_init_59 : decode cX3_init 59 = .ok (.invokespecial 43, 3) := by decide +kernel
theorem dX3_init_62 : decode cX3_init 62 = .ok (.putfield 44, 3) := by decide +kernel
theorem dX3_init_65 : decode cX3_init 65 = .ok (.aload_n 0, 1) := by decide +kernel
theorem dX3_init_66 : decode cX3_init 66 = .ok (.new 9, 3) := by decide +kernel
theorem dX3_init_69 : decode cX3_init 69 = .ok (.dup, 1) := by decide +kernel
theorem dX3_init_70 : decode cX3_init 70 = .ok (.iconst 3, 1) := by decide +kernel
theorem dX3_init_71 : decode cX3_init 71 = .ok (.invokespecial 15, 3) := by decide +kernel
theorem dX3_init_74 : decode cX3_init 74 = .ok (.putfield 48, 3) := by decide +kernel
theorem dX3_init_77 : decode cX3_init 77 = .ok (.aload_n 0, 1) := by decide +kernel
theorem dX3_init_78 : decode cX3_init 78 = .ok (.new 9, 3) := by decide +kernel
theorem dX3_init_81 : decode cX3_init 81 = .ok (.dup, 1) := by decide +kernel
theorem dX3_init_82 : decode cX3_init 82 = .ok (.bipush 24, 2) := by decide +kernel
theorem dX3_init_84 : decode cX3_init 84 = .ok (.invokespecial 15, 3) := by decide +kernel
theorem dX3_init_87 : decode cX3_init 87 = .ok (.putfield 51, 3) := by decide +kernel
theorem dX3_init_90 : decode cX3_init 90 = .ok (.aload_n 0, 1) := by decide +kernel
theorem dX3_init_91 : decode cX3_init 91 = .ok (.new 9, 3) := by decide +kernel
theorem dX3_init_94 : decode cX3_init 94 = .ok (.dup, 1) := by decide +kernel
theorem dX3_init_95 : decode cX3_init 95 = .ok (.bipush 24, 2) := by decide +kernel
theorem dX3_init_97 : decode cX3_init 97 = .ok (.invokespecial 15, 3) := by decide +kernel
theorem dX3_init_100 : decode cX3_init 100 = .ok (.putfield 54, 3) := by decide +kernel
theorem dX3_init_103 : decode cX3_init 103 = .ok (.aload_n 0, 1) := by decide +kernel
theorem dX3_init_104 : decode cX3_init 104 = .ok (.new 9, 3) := by decide +kernel
theorem dX3_init_107 : decode cX3_init 107 = .ok (.dup, 1) := by decide +kernel
theorem dX3_init_108 : decode cX3_init 108 = .ok (.bipush 16, 2) := by decide +kernel
theorem dX3_init_110 : decode cX3_init 110 = .ok (.invokespecial 15, 3) := by decide +kernel
theorem dX3_init_113 : decode cX3_init 113 = .ok (.putfield 57, 3) := by decide +kernel
theorem dX3_init_116 : decode cX3_init 116 = .ok (.aload_n 0, 1) := by decide +kernel
theorem dX3_init_117 : decode cX3_init 117 = .ok (.new 9, 3) := by decide +kernel
theorem dX3_init_120 : decode cX3_init 120 = .ok (.dup, 1) := by decide +kernel
theorem dX3_init_121 : decode cX3_init 121 = .ok (.bipush 16, 2) := by decide +kernel
theorem dX3_init_123 : decode cX3_init 123 = .ok (.invokespecial 15, 3) := by decide +kernel
theorem dX3_init_126 : decode cX3_init 126 = .ok (.putfield 60, 3) := by decide +kernel
theorem dX3_init_129 : decode cX3_init 129 = .ok (.aload_n 0, 1) := by decide +kernel
theorem dX3_init_130 : decode cX3_init 130 = .ok (.new 9, 3) := by decide +kernel
theorem dX3_init_133 : decode cX3_init 133 = .ok (.dup, 1) := by decide +kernel
theorem dX3_init_134 : decode cX3_init 134 = .ok (.bipush 16, 2) := by decide +kernel
theorem dX3_init_136 : decode cX3_init 136 = .ok (.invokespecial 15, 3) := by decide +kernel
theorem dX3_init_139 : decode cX3_init 139 = .ok (.putfield 63, 3) := by decide +kernel
theorem dX3_init_142 : decode cX3_init 142 = .ok (.aload_n 0, 1) := by decide +kernel
theorem dX3_init_143 : decode cX3_init 143 = .ok (.new 9, 3) := by decide +kernel
theorem dX3_init_146 : decode cX3_init 146 = .ok (.dup, 1) := by decide +kernel
theorem dX3_init_147 : decode cX3_init 147 = .ok (.bipush 16, 2) := by decide +kernel
theorem dX3_init_149 : decode cX3_init 149 = .ok (.invokespecial 15, 3) := by decide +kernel
theorem dX3_init_152 : decode cX3_init 152 = .ok (.putfield 66, 3) := by decide +kernel
theorem dX3_init_155 : decode cX3_init 155 = .ok (.iconst 0, 1) := by decide +kernel
theorem dX3_init_156 : decode cX3_init 156 = .ok (.istore_n 1, 1) := by decide +kernel
theorem dX3_init_157 : decode cX3_init 157 = .ok (.iload_n 1, 1) := by decide +kernel
theorem dX3_init_158 : decode cX3_init 158 = .ok (.getstatic 11, 3) := by decide +kernel
theorem dX3_init_161 : decode cX3_init 161 = .ok (.arraylength, 1) := by decide +kernel
theorem dX3_init_162 : decode cX3_init 162 = .ok (.if_icmp .ge 22, 3) := by decide +kernel
theorem dX3_init_165 : decode cX3_init 165 = .ok (.aload_n 0, 1) := by decide +kernel
theorem dX3_init_166 : decode cX3_init 166 = .ok (.getfield 18, 3) := by decide +kernel
theorem dX3_init_169 : decode cX3_init 169 = .ok (.iload_n 1, 1) := by decide +kernel
theorem dX3_init_170 : decode cX3_init 170 = .ok (.getstatic 11, 3) := by decide +kernel
theorem dX3_init_173 : decode cX3_init 173 = .ok (.iload_n 1, 1) := by decide +kernel
theorem dX3_init_174 : decode cX3_init 174 = .ok (.iaload, 1) := by decide +kernel
theorem dX3_init_175 : decode cX3_init 175 = .ok (.invokevirtual 69, 3) := by decide +kernel
theorem dX3_init_178 : decode cX3_init 178 = .ok (.iinc 1 1, 3) := by decide +kernel
theorem dX3_init_181 : decode cX3_init 181 = .ok (.goto (-24), 3) := by decide +kernel
theorem dX3_init_184 : decode cX3_init 184 = .ok (.return_, 1) := by decide +kernel
theorem dX3_copyFrom_0 : decode cX3_copyFrom 0 = .ok (.aload_n 0, 1) := by decide +kernel
theorem dX3_copyFrom_1 : decode cX3_copyFrom 1 = .ok (.getfield 18, 3) := by decide +kernel
theorem dX3_copyFrom_4 : decode cX3_copyFrom 4 = .ok (.aload_n 1, 1) := by decide +kernel
theorem dX3_copyFrom_5 : decode cX3_copyFrom 5 = .ok (.getfield 18, 3) := by decide +kernel
theorem dX3_copyFrom_8 : decode cX3_copyFrom 8 = .ok (.invokevirtual 73, 3) := by decide +kernel
theorem dX3_copyFrom_11 : decode cX3_copyFrom 11 = .ok (.aload_n 0, 1) := by decide +kernel
theorem dX3_copyFrom_12 : decode cX3_copyFrom 12 = .ok (.getfield 24, 3) := by decide +kernel
theorem dX3_copyFrom_15 : decode cX3_copyFrom 15 = .ok (.aload_n 1, 1) := by decide +kernel
theorem dX3_copyFrom_16 : decode cX3_copyFrom 16 = .ok (.getfield 24, 3) := by decide +kernel
theorem dX3_copyFrom_19 : decode cX3_copyFrom 19 = .ok (.invokevirtual 73, 3) := by decide +kernel
theorem dX3_copyFrom_22 : decode cX3_copyFrom 22 = .ok (.aload_n 0, 1) := by decide +kernel
theorem dX3_copyFrom_23 : decode cX3_copyFrom 23 = .ok (.getfield 30, 3) := by decide +kernel
theorem dX3_copyFrom_26 : decode cX3_copyFrom 26 = .ok (.aload_n 1, 1) := by decide +kernel
theorem dX3_copyFrom_27 : decode cX3_copyFrom 27 = .ok (.getfield 30, 3) := by decide +kernel
theorem dX3_copyFrom_30 : decode cX3_copyFrom 30 = .ok (.invokevirtual 77, 3) := by decide +kernel
theorem dX3_copyFrom_33 : decode cX3_copyFrom 33 = .ok (.aload_n 0, 1) := by decide +kernel
theorem dX3_copyFrom_34 : decode cX3_copyFrom 34 = .ok (.getfield 37, 3) := by decide +kernel
theorem dX3_copyFrom_37 : decode cX3_copyFrom 37 = .ok (.aload_n 1, 1) := by decide +kernel
theorem dX3_copyFrom_38 : decode cX3_copyFrom 38 = .ok (.getfield 37, 3) := by decide +kernel
theorem dX3_copyFrom_41 : decode cX3_copyFrom 41 = .ok (.invokevirtual 80, 3) := by decide +kernel
theorem dX3_copyFrom_44 : decode cX3_copyFrom 44 = .ok (.aload_n 0, 1) := by decide +kernel
theorem dX3_copyFrom_45 : decode cX3_copyFrom 45 = .ok (.getfield 44, 3) := by decide +kernel
theorem dX3_copyFrom_48 : decode cX3_copyFrom 48 = .ok (.aload_n 1, 1) := by decide +kernel
theorem dX3_copyFrom_49 : decode cX3_copyFrom 49 = .ok (.getfield 44, 3) := by decide +kernel
theorem dX3_copyFrom_52 : decode cX3_copyFrom 52 = .ok (.invokevirtual 83, 3) := by decide +kernel
theorem dX3_copyFrom_55 : decode cX3_copyFrom 55 = .ok (.aload_n 0, 1) := by decide +kernel
theorem dX3_copyFrom_56 : decode cX3_copyFrom 56 = .ok (.getfield 48, 3) := by decide +kernel
theorem dX3_copyFrom_59 : decode cX3_copyFrom 59 = .ok (.aload_n 1, 1) := by decide +kernel
theorem dX3_copyFrom_60 : decode cX3_copyFrom 60 = .ok (.getfield 48, 3) := by decide +kernel
theorem dX3_copyFrom_63 : decode cX3_copyFrom 63 = .ok (.invokevirtual 73, 3) := by decide +kernel
theorem dX3_copyFrom_66 : decode cX3_copyFrom 66 = .ok (.aload_n 0, 1) := by decide +kernel
theorem dX3_copyFrom_67 : decode cX3_copyFrom 67 = .ok (.getfield 51, 3) := by decide +kernel
theorem dX3_copyFrom_70 : decode cX3_copyFrom 70 = .ok (.aload_n 1, 1) := by decide +kernel
theorem dX3_copyFrom_71 : decode cX3_copyFrom 71 = .ok (.getfield 51, 3) := by decide +kernel
theorem dX3_copyFrom_74 : decode cX3_copyFrom 74 = .ok (.invokevirtual 73, 3) := by decide +kernel
theorem dX3_copyFrom_77 : decode cX3_copyFrom 77 = .ok (.aload_n 0, 1) := by decide +kernel
theorem dX3_copyFrom_78 : decode cX3_copyFrom 78 = .ok (.getfield 54, 3) := by decide +kernel
theorem dX3_copyFrom_81 : decode cX3_copyFrom 81 = .ok (.aload_n 1, 1) := by decide +kernel
theorem dX3_copyFrom_82 : decode cX3_copyFrom 82 = .ok (.getfield 54, 3) := by decide +kernel
theorem dX3_copyFrom_85 : decode cX3_copyFrom 85 = .ok (.invokevirtual 73, 3) := by decide +kernel
theorem dX3_copyFrom_88 : decode cX3_copyFrom 88 = .ok (.aload_n 0, 1) := by decide +kernel
theorem dX3_copyFrom_89 : decode cX3_copyFrom 89 = .ok (.getfield 57, 3) := by decide +kernel
theorem dX3_copyFrom_92 : decode cX3_copyFrom 92 = .ok (.aload_n 1, 1) := by decide +kernel
theorem dX3_copyFrom_93 : decode cX3_copyFrom 93 = .ok (.getfield 57, 3) := by decide +kernel
theorem dX3_copyFrom_96 : decode cX3_copyFrom 96 = .ok (.invokevirtual 73, 3) := by decide +kernel
theorem dX3_copyFrom_99 : decode cX3_copyFrom 99 = .ok (.aload_n 0, 1) := by decide +kernel
theorem dX3_copyFrom_100 : decode cX3_copyFrom 100 = .ok (.getfield 60, 3) := by decide +kernel
theorem dX3_copyFrom_103 : decode cX3_copyFrom 103 = .ok (.aload_n 1, 1) := by decide +kernel
theorem dX3_copyFrom_104 : decode cX3_copyFrom 104 = .ok (.getfield 60, 3) := by decide +kernel
theorem dX3_copyFrom_107 : decode cX3_copyFrom 107 = .ok (.invokevirtual 73, 3) := by decide +kernel
theorem dX3_copyFrom_110 : decode cX3_copyFrom 110 = .ok (.aload_n 0, 1) := by decide +kernel
theorem dX3_copyFrom_111 : decode cX3_copyFrom 111 = .ok (.getfield 63, 3) := by decide +kernel
theorem dX3_copyFrom_114 : decode cX3_copyFrom 114 = .ok (.aload_n 1, 1) := by decide +kernel
theorem dX3_copyFrom_115 : decode cX3_copyFrom 115 = .ok (.getfield 63, 3) := by decide +kernel
theorem dX3_copyFrom_118 : decode cX3_copyFrom 118 = .ok (.invokevirtual 73, 3) := by decide +kernel
theorem dX3_copyFrom_121 : decode cX3_copyFrom 121 = .ok (.aload_n 0, 1) := by decide +kernel
theorem dX3_copyFrom_122 : decode cX3_copyFrom 122 = .ok (.getfield 66, 3) := by decide +kernel
theorem dX3_copyFrom_125 : decode cX3_copyFrom 125 = .ok (.aload_n 1, 1) := by decide +kernel
theorem dX3_copyFrom_126 : decode cX3_copyFrom 126 = .ok (.getfield 66, 3) := by decide +kernel
theorem dX3_copyFrom_129 : decode cX3_copyFrom 129 = .ok (.invokevirtual 73, 3) := by decide +kernel
theorem dX3_copyFrom_132 : decode cX3_copyFrom 132 = .ok (.return_, 1) := by decide +kernel
theorem dX3_errorOf_0 : decode cX3_errorOf 0 = .ok (.iload_n 1, 1) := by decide +kernel
theorem dX3_errorOf_1 : decode cX3_errorOf 1 = .ok (.iconst 3, 1) := by decide +kernel
theorem dX3_errorOf_2 : decode cX3_errorOf 2 = .ok (.if_icmp .eq 10, 3) := by decide +kernel
theorem dX3_errorOf_5 : decode cX3_errorOf 5 = .ok (.iload_n 2, 1) := by decide +kernel
theorem dX3_errorOf_6 : decode cX3_errorOf 6 = .ok (.invokestatic 86, 3) := by decide +kernel
theorem dX3_errorOf_9 : decode cX3_errorOf 9 = .ok (.ifCond .eq 10, 3) := by decide +kernel
theorem dX3_errorOf_12 : decode cX3_errorOf 12 = .ok (.iload_n 3, 1) := by decide +kernel
theorem dX3_errorOf_13 : decode cX3_errorOf 13 = .ok (.invokestatic 90, 3) := by decide +kernel
theorem dX3_errorOf_16 : decode cX3_errorOf 16 = .ok (.ifCond .ne 5, 3) := by decide +kernel
theorem dX3_errorOf_19 : decode cX3_errorOf 19 = .ok (.iconst (-1), 1) := by decide +kernel
theorem dX3_errorOf_20 : decode cX3_errorOf 20 = .ok (.ireturn, 1) := by decide +kernel
theorem dX3_errorOf_21 : decode cX3_errorOf 21 = .ok (.iload_n 1, 1) := by decide +kernel
theorem dX3_errorOf_22 : decode cX3_errorOf 22 = .ok (.iconst 1, 1) := by decide +kernel
theorem dX3_errorOf_23 : decode cX3_errorOf 23 = .ok (.if_icmp .ne 19, 3) := by decide +kernel
theorem dX3_errorOf_26 : decode cX3_errorOf 26 = .ok (.iload 4, 2) := by decide +kernel
theorem dX3_errorOf_28 : decode cX3_errorOf 28 = .ok (.ifCond .lt 11, 3) := by decide +kernel
theorem dX3_errorOf_31 : decode cX3_errorOf 31 = .ok (.iload 4, 2) := by decide +kernel
theorem dX3_errorOf_33 : decode cX3_errorOf 33 = .ok (.sipush 9999, 3) := by decide +kernel
theorem dX3_errorOf_36 : decode cX3_errorOf 36 = .ok (.if_icmp .le 6, 3) := by decide +kernel
theorem dX3_errorOf_39 : decode cX3_errorOf 39 = .ok (.bipush (-2), 2) := by decide +kernel
theorem dX3_errorOf_41 : decode cX3_errorOf 41 = .ok (.ireturn, 1) := by decide +kernel
theorem dX3_errorOf_42 : decode cX3_errorOf 42 = .ok (.iload_n 1, 1) := by decide +kernel
theorem dX3_errorOf_43 : decode cX3_errorOf 43 = .ok (.iconst 2, 1) := by decide +kernel
theorem dX3_errorOf_44 : decode cX3_errorOf 44 = .ok (.if_icmp .ne 15, 3) := by decide +kernel
theorem dX3_errorOf_47 : decode cX3_errorOf 47 = .ok (.aload_n 0, 1) := by decide +kernel
theorem dX3_errorOf_48 : decode cX3_errorOf 48 = .ok (.getfield 37, 3) := by decide +kernel
theorem dX3_errorOf_51 : decode cX3_errorOf 51 = .ok (.iload_n 2, 1) := by decide +kernel
theorem dX3_errorOf_52 : decode cX3_errorOf 52 = .ok (.iload_n 3, 1) := by decide +kernel
theorem dX3_errorOf_53 : decode cX3_errorOf 53 = .ok (.invokevirtual 93, 3) := by decide +kernel
theorem dX3_errorOf_56 : decode cX3_errorOf 56 = .ok (.ifCond .eq 22, 3) := by decide +kernel
theorem dX3_errorOf_59 : decode cX3_errorOf 59 = .ok (.iload_n 1, 1) := by decide +kernel
theorem dX3_errorOf_60 : decode cX3_errorOf 60 = .ok (.iconst 3, 1) := by decide +kernel
theorem dX3_errorOf_61 : decode cX3_errorOf 61 = .ok (.if_icmp .ne 20, 3) := by decide +kernel
theorem dX3_errorOf_64 : decode cX3_errorOf 64 = .ok (.aload_n 0, 1) := by decide +kernel
theorem dX3_errorOf_65 : decode cX3_errorOf 65 = .ok (.getfield 30, 3) := by decide +kernel
theorem dX3_errorOf_68 : decode cX3_errorOf 68 = .ok (.getfield 97, 3) := by decide +kernel
theorem dX3_errorOf_71 : decode cX3_errorOf 71 = .ok (.iload_n 3, 1) := by decide +kernel
theorem dX3_errorOf_72 : decode cX3_errorOf 72 = .ok (.invokevirtual 100, 3) := by decide +kernel
theorem dX3_errorOf_75 : decode cX3_errorOf 75 = .ok (.ifCond .ne 6, 3) := by decide +kernel
theorem dX3_errorOf_78 : decode cX3_errorOf 78 = .ok (.bipush (-5), 2) := by decide +kernel
theorem dX3_errorOf_80 : decode cX3_errorOf 80 = .ok (.ireturn, 1) := by decide +kernel
theorem dX3_errorOf_81 : decode cX3_errorOf 81 = .ok (.iconst 0, 1) := by decide +kernel
theorem dX3_errorOf_82 : decode cX3_errorOf 82 = .ok (.ireturn, 1) := by decide +kernel
theorem dX3_lend_0 : decode cX3_lend 0 = .ok (.aload_n 0, 1) := by decide +kernel
theorem dX3_lend_1 : decode cX3_lend 1 = .ok (.getfield 37, 3) := by decide +kernel
theorem dX3_lend_4 : decode cX3_lend 4 = .ok (.iload_n 1, 1) := by decide +kernel
theorem dX3_lend_5 : decode cX3_lend 5 = .ok (.iload_n 2, 1) := by decide +kernel
theorem dX3_lend_6 : decode cX3_lend 6 = .ok (.invokevirtual 104, 3) := by decide +kernel
theorem dX3_lend_9 : decode cX3_lend 9 = .ok (.istore_n 3, 1) := by decide +kernel
theorem dX3_lend_10 : decode cX3_lend 10 = .ok (.iload_n 3, 1) := by decide +kernel
theorem dX3_lend_11 : decode cX3_lend 11 = .ok (.iconst (-1), 1) := by decide +kernel
theorem dX3_lend_12 : decode cX3_lend 12 = .ok (.if_icmp .eq 7, 3) := by decide +kernel
theorem dX3_lend_15 : decode cX3_lend 15 = .ok (.iconst 1, 1) := by decide +kernel
theorem dX3_lend_16 : decode cX3_lend 16 = .ok (.goto 4, 3) := by decide +kernel
theorem dX3_lend_19 : decode cX3_lend 19 = .ok (.iconst 0, 1) := by decide +kernel
theorem dX3_lend_20 : decode cX3_lend 20 = .ok (.istore 4, 2) := by decide +kernel
theorem dX3_lend_22 : decode cX3_lend 22 = .ok (.aload_n 0, 1) := by decide +kernel
theorem dX3_lend_23 : decode cX3_lend 23 = .ok (.iload_n 1, 1) := by decide +kernel
theorem dX3_lend_24 : decode cX3_lend 24 = .ok (.iload 4, 2) := by decide +kernel
theorem dX3_lend_26 : decode cX3_lend 26 = .ok (.invokevirtual 108, 3) := by decide +kernel
theorem dX3_lend_29 : decode cX3_lend 29 = .ok (.iload 4, 2) := by decide +kernel
theorem dX3_lend_31 : decode cX3_lend 31 = .ok (.ifCond .eq 50, 3) := by decide +kernel
theorem dX3_lend_34 : decode cX3_lend 34 = .ok (.aload_n 0, 1) := by decide +kernel
theorem dX3_lend_35 : decode cX3_lend 35 = .ok (.getfield 37, 3) := by decide +kernel
theorem dX3_lend_38 : decode cX3_lend 38 = .ok (.iload_n 1, 1) := by decide +kernel
theorem dX3_lend_39 : decode cX3_lend 39 = .ok (.iload_n 3, 1) := by decide +kernel
theorem dX3_lend_40 : decode cX3_lend 40 = .ok (.invokevirtual 112, 3) := by decide +kernel
theorem dX3_lend_43 : decode cX3_lend 43 = .ok (.istore 5, 2) := by decide +kernel
theorem dX3_lend_45 : decode cX3_lend 45 = .ok (.aload_n 0, 1) := by decide +kernel
theorem dX3_lend_46 : decode cX3_lend 46 = .ok (.getfield 37, 3) := by decide +kernel
theorem dX3_lend_49 : decode cX3_lend 49 = .ok (.iload_n 1, 1) := by decide +kernel
theorem dX3_lend_50 : decode cX3_lend 50 = .ok (.iload_n 3, 1) := by decide +kernel
theorem dX3_lend_51 : decode cX3_lend 51 = .ok (.invokevirtual 115, 3) := by decide +kernel
theorem dX3_lend_54 : decode cX3_lend 54 = .ok (.istore 6, 2) := by decide +kernel
theorem dX3_lend_56 : decode cX3_lend 56 = .ok (.aload_n 0, 1) := by decide +kernel
theorem dX3_lend_57 : decode cX3_lend 57 = .ok (.getfield 37, 3) := by decide +kernel
theorem dX3_lend_60 : decode cX3_lend 60 = .ok (.iload_n 1, 1) := by decide +kernel
theorem dX3_lend_61 : decode cX3_lend 61 = .ok (.iload_n 3, 1) := by decide +kernel
theorem dX3_lend_62 : decode cX3_lend 62 = .ok (.invokevirtual 118, 3) := by decide +kernel
theorem dX3_lend_65 : decode cX3_lend 65 = .ok (.aload_n 0, 1) := by decide +kernel
theorem dX3_lend_66 : decode cX3_lend 66 = .ok (.getfield 37, 3) := by decide +kernel
theorem dX3_lend_69 : decode cX3_lend 69 = .ok (.iload_n 1, 1) := by decide +kernel
theorem dX3_lend_70 : decode cX3_lend 70 = .ok (.iload_n 2, 1) := by decide +kernel
theorem dX3_lend_71 : decode cX3_lend 71 = .ok (.iload 5, 2) := by decide +kernel
theorem dX3_lend_73 : decode cX3_lend 73 = .ok (.iload 6, 2) := by decide +kernel
theorem dX3_lend_75 : decode cX3_lend 75 = .ok (.invokevirtual 121, 3) := by decide +kernel
theorem dX3_lend_78 : decode cX3_lend 78 = .ok (.iload 5, 2) := by decide +kernel
theorem dX3_lend_80 : decode cX3_lend 80 = .ok (.ireturn, 1) := by decide +kernel
theorem dX3_lend_81 : decode cX3_lend 81 = .ok (.aload_n 0, 1) := by decide +kernel
theorem dX3_lend_82 : decode cX3_lend 82 = .ok (.getfield 30, 3) := by decide +kernel
theorem dX3_lend_85 : decode cX3_lend 85 = .ok (.getfield 97, 3) := by decide +kernel
theorem dX3_lend_88 : decode cX3_lend 88 = .ok (.iload_n 2, 1) := by decide +kernel
theorem dX3_lend_89 : decode cX3_lend 89 = .ok (.invokevirtual 100, 3) := by decide +kernel
theorem dX3_lend_92 : decode cX3_lend 92 = .ok (.iconst 3, 1) := by decide +kernel
theorem dX3_lend_93 : decode cX3_lend 93 = .ok (.if_icmp .ne 20, 3) := by decide +kernel
theorem dX3_lend_96 : decode cX3_lend 96 = .ok (.aload_n 0, 1) := by decide +kernel
theorem dX3_lend_97 : decode cX3_lend 97 = .ok (.iload_n 2, 1) := by decide +kernel
theorem dX3_lend_98 : decode cX3_lend 98 = .ok (.iload_n 1, 1) := by decide +kernel
theorem dX3_lend_99 : decode cX3_lend 99 = .ok (.invokevirtual 125, 3) := by decide +kernel
theorem dX3_lend_102 : decode cX3_lend 102 = .ok (.pop, 1) := by decide +kernel
theorem dX3_lend_103 : decode cX3_lend 103 = .ok (.aload_n 0, 1) := by decide +kernel
theorem dX3_lend_104 : decode cX3_lend 104 = .ok (.getfield 30, 3) := by decide +kernel
theorem dX3_lend_107 : decode cX3_lend 107 = .ok (.iload_n 2, 1) := by decide +kernel
theorem dX3_lend_108 : decode cX3_lend 108 = .ok (.iconst 0, 1) := by decide +kernel
theorem dX3_lend_109 : decode cX3_lend 109 = .ok (.iconst 0, 1) := by decide +kernel
theorem dX3_lend_110 : decode cX3_lend 110 = .ok (.invokevirtual 128, 3) := by decide +kernel
theorem dX3_lend_113 : decode cX3_lend 113 = .ok (.aload_n 0, 1) := by decide +kernel
theorem dX3_lend_114 : decode cX3_lend 114 = .ok (.iload_n 1, 1) := by decide +kernel
theorem dX3_lend_115 : decode cX3_lend 115 = .ok (.invokevirtual 132, 3) := by decide +kernel
theorem dX3_lend_118 : decode cX3_lend 118 = .ok (.aload_n 0, 1) := by decide +kernel
theorem dX3_lend_119 : decode cX3_lend 119 = .ok (.getfield 48, 3) := by decide +kernel
theorem dX3_lend_122 : decode cX3_lend 122 = .ok (.iconst 0, 1) := by decide +kernel
theorem dX3_lend_123 : decode cX3_lend 123 = .ok (.iconst 2, 1) := by decide +kernel
theorem dX3_lend_124 : decode cX3_lend 124 = .ok (.invokevirtual 135, 3) := by decide +kernel
theorem dX3_lend_127 : decode cX3_lend 127 = .ok (.aload_n 0, 1) := by decide +kernel
theorem dX3_lend_128 : decode cX3_lend 128 = .ok (.getfield 37, 3) := by decide +kernel
theorem dX3_lend_131 : decode cX3_lend 131 = .ok (.iload_n 1, 1) := by decide +kernel
theorem dX3_lend_132 : decode cX3_lend 132 = .ok (.iload_n 2, 1) := by decide +kernel
theorem dX3_lend_133 : decode cX3_lend 133 = .ok (.aload_n 0, 1) := by decide +kernel
theorem dX3_lend_134 : decode cX3_lend 134 = .ok (.getfield 24, 3) := by decide +kernel
theorem dX3_lend_137 : decode cX3_lend 137 = .ok (.iload_n 2, 1) := by decide +kernel
theorem dX3_lend_138 : decode cX3_lend 138 = .ok (.invokevirtual 100, 3) := by decide +kernel
theorem dX3_lend_141 : decode cX3_lend 141 = .ok (.iconst 0, 1) := by decide +kernel
theorem dX3_lend_142 : decode cX3_lend 142 = .ok (.invokevirtual 121, 3) := by decide +kernel
theorem dX3_lend_145 : decode cX3_lend 145 = .ok (.aload_n 0, 1) := by decide +kernel
theorem dX3_lend_146 : decode cX3_lend 146 = .ok (.getfield 30, 3) := by decide +kernel
theorem dX3_lend_149 : decode cX3_lend 149 = .ok (.iload_n 2, 1) := by decide +kernel
theorem dX3_lend_150 : decode cX3_lend 150 = .ok (.iload_n 1, 1) := by decide +kernel
theorem dX3_lend_151 : decode cX3_lend 151 = .ok (.aload_n 0, 1) := by decide +kernel
theorem dX3_lend_152 : decode cX3_lend 152 = .ok (.getfield 18, 3) := by decide +kernel
theorem dX3_lend_155 : decode cX3_lend 155 = .ok (.iconst 0, 1) := by decide +kernel
theorem dX3_lend_156 : decode cX3_lend 156 = .ok (.invokevirtual 100, 3) := by decide +kernel
theorem dX3_lend_159 : decode cX3_lend 159 = .ok (.aload_n 0, 1) := by decide +kernel
theorem dX3_lend_160 : decode cX3_lend 160 = .ok (.getfield 18, 3) := by decide +kernel
theorem dX3_lend_163 : decode cX3_lend 163 = .ok (.iconst 1, 1) := by decide +kernel
theorem dX3_lend_164 : decode cX3_lend 164 = .ok (.invokevirtual 100, 3) := by decide +kernel
theorem dX3_lend_167 : decode cX3_lend 167 = .ok (.invokevirtual 138, 3) := by decide +kernel
theorem dX3_lend_170 : decode cX3_lend 170 = .ok (.aload_n 0, 1) := by decide +kernel
theorem dX3_lend_171 : decode cX3_lend 171 = .ok (.getfield 24, 3) := by decide +kernel
theorem dX3_lend_174 : decode cX3_lend 174 = .ok (.iload_n 2, 1) := by decide +kernel
theorem dX3_lend_175 : decode cX3_lend 175 = .ok (.invokevirtual 100, 3) := by decide +kernel
theorem dX3_lend_178 : decode cX3_lend 178 = .ok (.ireturn, 1) := by decide +kernel
theorem dX3_rewrite_0 : decode cX3_rewrite 0 = .ok (.aload_n 0, 1) := by decide +kernel
theorem dX3_rewrite_1 : decode cX3_rewrite 1 = .ok (.getfield 48, 3) := by decide +kernel
theorem dX3_rewrite_4 : decode cX3_rewrite 4 = .ok (.iconst 0, 1) := by decide +kernel
theorem dX3_rewrite_5 : decode cX3_rewrite 5 = .ok (.invokevirtual 100, 3) := by decide +kernel
theorem dX3_rewrite_8 : decode cX3_rewrite 8 = .ok (.istore 4, 2) := by decide +kernel
theorem dX3_rewrite_10 : decode cX3_rewrite 10 = .ok (.aload_n 0, 1) := by decide +kernel
theorem dX3_rewrite_11 : decode cX3_rewrite 11 = .ok (.getfield 30, 3) := by decide +kernel
theorem dX3_rewrite_14 : decode cX3_rewrite 14 = .ok (.iload_n 2, 1) := by decide +kernel
theorem dX3_rewrite_15 : decode cX3_rewrite 15 = .ok (.iload_n 1, 1) := by decide +kernel
theorem dX3_rewrite_16 : decode cX3_rewrite 16 = .ok (.invokevirtual 142, 3) := by decide +kernel
theorem dX3_rewrite_19 : decode cX3_rewrite 19 = .ok (.istore 5, 2) := by decide +kernel
theorem dX3_rewrite_21 : decode cX3_rewrite 21 = .ok (.aload_n 0, 1) := by decide +kernel
theorem dX3_rewrite_22 : decode cX3_rewrite 22 = .ok (.iload_n 1, 1) := by decide +kernel
theorem dX3_rewrite_23 : decode cX3_rewrite 23 = .ok (.iload 5, 2) := by decide +kernel
theorem dX3_rewrite_25 : decode cX3_rewrite 25 = .ok (.invokevirtual 108, 3) := by decide +kernel
theorem dX3_rewrite_28 : decode cX3_rewrite 28 = .ok (.iload 5, 2) := by decide +kernel
theorem dX3_rewrite_30 : decode cX3_rewrite 30 = .ok (.ifCond .ne 19, 3) := by decide +kernel
theorem dX3_rewrite_33 : decode cX3_rewrite 33 = .ok (.aload_n 0, 1) := by decide +kernel
theorem dX3_rewrite_34 : decode cX3_rewrite 34 = .ok (.iload_n 2, 1) := by decide +kernel
theorem dX3_rewrite_35 : decode cX3_rewrite 35 = .ok (.iload_n 1, 1) := by decide +kernel
theorem dX3_rewrite_36 : decode cX3_rewrite 36 = .ok (.invokevirtual 125, 3) := by decide +kernel
theorem dX3_rewrite_39 : decode cX3_rewrite 39 = .ok (.pop, 1) := by decide +kernel
theorem dX3_rewrite_40 : decode cX3_rewrite 40 = .ok (.aload_n 0, 1) := by decide +kernel
theorem dX3_rewrite_41 : decode cX3_rewrite 41 = .ok (.getfield 48, 3) := by decide +kernel
theorem dX3_rewrite_44 : decode cX3_rewrite 44 = .ok (.iconst 0, 1) := by decide +kernel
theorem dX3_rewrite_45 : decode cX3_rewrite 45 = .ok (.iconst 2, 1) := by decide +kernel
theorem dX3_rewrite_46 : decode cX3_rewrite 46 = .ok (.invokevirtual 135, 3) := by decide +kernel
theorem dX3_rewrite_49 : decode cX3_rewrite 49 = .ok (.aload_n 0, 1) := by decide +kernel
theorem dX3_rewrite_50 : decode cX3_rewrite 50 = .ok (.getfield 37, 3) := by decide +kernel
theorem dX3_rewrite_53 : decode cX3_rewrite 53 = .ok (.iload_n 1, 1) := by decide +kernel
theorem dX3_rewrite_54 : decode cX3_rewrite 54 = .ok (.iload_n 2, 1) := by decide +kernel
theorem dX3_rewrite_55 : decode cX3_rewrite 55 = .ok (.invokevirtual 93, 3) := by decide +kernel
theorem dX3_rewrite_58 : decode cX3_rewrite 58 = .ok (.ifCond .eq 23, 3) := by decide +kernel
theorem dX3_rewrite_61 : decode cX3_rewrite 61 = .ok (.aload_n 0, 1) := by decide +kernel
theorem dX3_rewrite_62 : decode cX3_rewrite 62 = .ok (.getfield 37, 3) := by decide +kernel
theorem dX3_rewrite_65 : decode cX3_rewrite 65 = .ok (.iload_n 1, 1) := by decide +kernel
theorem dX3_rewrite_66 : decode cX3_rewrite 66 = .ok (.aload_n 0, 1) := by decide +kernel
theorem dX3_rewrite_67 : decode cX3_rewrite 67 = .ok (.getfield 37, 3) := by decide +kernel
theorem dX3_rewrite_70 : decode cX3_rewrite 70 = .ok (.iload_n 1, 1) := by decide +kernel
theorem dX3_rewrite_71 : decode cX3_rewrite 71 = .ok (.iload_n 2, 1) := by decide +kernel
theorem dX3_rewrite_72 : decode cX3_rewrite 72 = .ok (.invokevirtual 104, 3) := by decide +kernel
theorem dX3_rewrite_75 : decode cX3_rewrite 75 = .ok (.invokevirtual 118, 3) := by decide +kernel
theorem dX3_rewrite_78 : decode cX3_rewrite 78 = .ok (.goto 8, 3) := by decide +kernel
theorem dX3_rewrite_81 : decode cX3_rewrite 81 = .ok (.aload_n 0, 1) := by decide +kernel
theorem dX3_rewrite_82 : decode cX3_rewrite 82 = .ok (.iload_n 1, 1) := by decide +kernel
theorem dX3_rewrite_83 : decode cX3_rewrite 83 = .ok (.invokevirtual 132, 3) := by decide +kernel
theorem dX3_rewrite_86 : decode cX3_rewrite 86 = .ok (.aload_n 0, 1) := by decide +kernel
theorem dX3_rewrite_87 : decode cX3_rewrite 87 = .ok (.getfield 37, 3) := by decide +kernel
theorem dX3_rewrite_90 : decode cX3_rewrite 90 = .ok (.iload_n 1, 1) := by decide +kernel
theorem dX3_rewrite_91 : decode cX3_rewrite 91 = .ok (.iload_n 2, 1) := by decide +kernel
theorem dX3_rewrite_92 : decode cX3_rewrite 92 = .ok (.iload_n 3, 1) := by decide +kernel
theorem dX3_rewrite_93 : decode cX3_rewrite 93 = .ok (.iconst 1, 1) := by decide +kernel
theorem dX3_rewrite_94 : decode cX3_rewrite 94 = .ok (.invokevirtual 121, 3) := by decide +kernel
theorem dX3_rewrite_97 : decode cX3_rewrite 97 = .ok (.aload_n 0, 1) := by decide +kernel
theorem dX3_rewrite_98 : decode cX3_rewrite 98 = .ok (.getfield 30, 3) := by decide +kernel
theorem dX3_rewrite_101 : decode cX3_rewrite 101 = .ok (.iload_n 2, 1) := by decide +kernel
theorem dX3_rewrite_102 : decode cX3_rewrite 102 = .ok (.iconst 3, 1) := by decide +kernel
theorem dX3_rewrite_103 : decode cX3_rewrite 103 = .ok (.iload_n 1, 1) := by decide +kernel
theorem dX3_rewrite_104 : decode cX3_rewrite 104 = .ok (.invokestatic 145, 3) := by decide +kernel
theorem dX3_rewrite_107 : decode cX3_rewrite 107 = .ok (.invokevirtual 128, 3) := by decide +kernel
theorem dX3_rewrite_110 : decode cX3_rewrite 110 = .ok (.aload_n 0, 1) := by decide +kernel
theorem dX3_rewrite_111 : decode cX3_rewrite 111 = .ok (.getfield 48, 3) := by decide +kernel
theorem dX3_rewrite_114 : decode cX3_rewrite 114 = .ok (.iconst 0, 1) := by decide +kernel
theorem dX3_rewrite_115 : decode cX3_rewrite 115 = .ok (.invokevirtual 100, 3) := by decide +kernel
theorem dX3_rewrite_118 : decode cX3_rewrite 118 = .ok (.iload 4, 2) := by decide +kernel
theorem dX3_rewrite_120 : decode cX3_rewrite 120 = .ok (.isub, 1) := by decide +kernel
theorem dX3_rewrite_121 : decode cX3_rewrite 121 = .ok (.ireturn, 1) := by decide +kernel
theorem dX3_callIn_0 : decode cX3_callIn 0 = .ok (.aload_n 0, 1) := by decide +kernel
theorem dX3_callIn_1 : decode cX3_callIn 1 = .ok (.iload_n 1, 1) := by decide +kernel
theorem dX3_callIn_2 : decode cX3_callIn 2 = .ok (.iconst (-1), 1) := by decide +kernel
theorem dX3_callIn_3 : decode cX3_callIn 3 = .ok (.invokevirtual 125, 3) := by decide +kernel
theorem dX3_callIn_6 : decode cX3_callIn 6 = .ok (.istore_n 2, 1) := by decide +kernel
theorem dX3_callIn_7 : decode cX3_callIn 7 = .ok (.aload_n 0, 1) := by decide +kernel
theorem dX3_callIn_8 : decode cX3_callIn 8 = .ok (.getfield 30, 3) := by decide +kernel
theorem dX3_callIn_11 : decode cX3_callIn 11 = .ok (.iload_n 1, 1) := by decide +kernel
theorem dX3_callIn_12 : decode cX3_callIn 12 = .ok (.iconst 0, 1) := by decide +kernel
theorem dX3_callIn_13 : decode cX3_callIn 13 = .ok (.iconst 0, 1) := by decide +kernel
theorem dX3_callIn_14 : decode cX3_callIn 14 = .ok (.invokevirtual 128, 3) := by decide +kernel
theorem dX3_callIn_17 : decode cX3_callIn 17 = .ok (.iload_n 2, 1) := by decide +kernel
theorem dX3_callIn_18 : decode cX3_callIn 18 = .ok (.ireturn, 1) := by decide +kernel
theorem dX3_giveBack_0 : decode cX3_giveBack 0 = .ok (.aload_n 0, 1) := by decide +kernel
theorem dX3_giveBack_1 : decode cX3_giveBack 1 = .ok (.getfield 37, 3) := by decide +kernel
theorem dX3_giveBack_4 : decode cX3_giveBack 4 = .ok (.iload_n 1, 1) := by decide +kernel
theorem dX3_giveBack_5 : decode cX3_giveBack 5 = .ok (.iload_n 2, 1) := by decide +kernel
theorem dX3_giveBack_6 : decode cX3_giveBack 6 = .ok (.invokevirtual 148, 3) := by decide +kernel
theorem dX3_giveBack_9 : decode cX3_giveBack 9 = .ok (.istore_n 3, 1) := by decide +kernel
theorem dX3_giveBack_10 : decode cX3_giveBack 10 = .ok (.aload_n 0, 1) := by decide +kernel
theorem dX3_giveBack_11 : decode cX3_giveBack 11 = .ok (.getfield 37, 3) := by decide +kernel
theorem dX3_giveBack_14 : decode cX3_giveBack 14 = .ok (.iload_n 1, 1) := by decide +kernel
theorem dX3_giveBack_15 : decode cX3_giveBack 15 = .ok (.iload_n 2, 1) := by decide +kernel
theorem dX3_giveBack_16 : decode cX3_giveBack 16 = .ok (.invokevirtual 115, 3) := by decide +kernel
theorem dX3_giveBack_19 : decode cX3_giveBack 19 = .ok (.istore 4, 2) := by decide +kernel
theorem dX3_giveBack_21 : decode cX3_giveBack 21 = .ok (.iload 4, 2) := by decide +kernel
theorem dX3_giveBack_23 : decode cX3_giveBack 23 = .ok (.ifCond .eq 20, 3) := by decide +kernel
theorem dX3_giveBack_26 : decode cX3_giveBack 26 = .ok (.aload_n 0, 1) := by decide +kernel
theorem dX3_giveBack_27 : decode cX3_giveBack 27 = .ok (.getfield 24, 3) := by decide +kernel
theorem dX3_giveBack_30 : decode cX3_giveBack 30 = .ok (.iload_n 3, 1) := by decide +kernel
theorem dX3_giveBack_31 : decode cX3_giveBack 31 = .ok (.aload_n 0, 1) := by decide +kernel
theorem dX3_giveBack_32 : decode cX3_giveBack 32 = .ok (.getfield 37, 3) := by decide +kernel
theorem dX3_giveBack_35 : decode cX3_giveBack 35 = .ok (.iload_n 1, 1) := by decide +kernel
theorem dX3_giveBack_36 : decode cX3_giveBack 36 = .ok (.iload_n 2, 1) := by decide +kernel
theorem dX3_giveBack_37 : decode cX3_giveBack 37 = .ok (.invokevirtual 112, 3) := by decide +kernel
theorem dX3_giveBack_40 : decode cX3_giveBack 40 = .ok (.invokevirtual 69, 3) := by decide +kernel
theorem dX3_giveBack_43 : decode cX3_giveBack 43 = .ok (.aload_n 0, 1) := by decide +kernel
theorem dX3_giveBack_44 : decode cX3_giveBack 44 = .ok (.getfield 37, 3) := by decide +kernel
theorem dX3_giveBack_47 : decode cX3_giveBack 47 = .ok (.iload_n 1, 1) := by decide +kernel
theorem dX3_giveBack_48 : decode cX3_giveBack 48 = .ok (.iload_n 2, 1) := by decide +kernel
theorem dX3_giveBack_49 : decode cX3_giveBack 49 = .ok (.invokevirtual 118, 3) := by decide +kernel
theorem dX3_giveBack_52 : decode cX3_giveBack 52 = .ok (.iload 4, 2) := by decide +kernel
theorem dX3_giveBack_54 : decode cX3_giveBack 54 = .ok (.ifCond .ne 15, 3) := by decide +kernel
theorem dX3_giveBack_57 : decode cX3_giveBack 57 = .ok (.aload_n 0, 1) := by decide +kernel
theorem dX3_giveBack_58 : decode cX3_giveBack 58 = .ok (.getfield 18, 3) := by decide +kernel
theorem dX3_giveBack_61 : decode cX3_giveBack 61 = .ok (.iconst 3, 1) := by decide +kernel
theorem dX3_giveBack_62 : decode cX3_giveBack 62 = .ok (.invokevirtual 100, 3) := by decide +kernel
theorem dX3_giveBack_65 : decode cX3_giveBack 65 = .ok (.iconst 1, 1) := by decide +kernel
theorem dX3_giveBack_66 : decode cX3_giveBack 66 = .ok (.if_icmp .ne 21, 3) := by decide +kernel
theorem dX3_giveBack_69 : decode cX3_giveBack 69 = .ok (.aload_n 0, 1) := by decide +kernel
theorem dX3_giveBack_70 : decode cX3_giveBack 70 = .ok (.getfield 48, 3) := by decide +kernel
theorem dX3_giveBack_73 : decode cX3_giveBack 73 = .ok (.iconst 0, 1) := by decide +kernel
theorem dX3_giveBack_74 : decode cX3_giveBack 74 = .ok (.iconst 1, 1) := by decide +kernel
theorem dX3_giveBack_75 : decode cX3_giveBack 75 = .ok (.invokevirtual 135, 3) := by decide +kernel
theorem dX3_giveBack_78 : decode cX3_giveBack 78 = .ok (.aload_n 0, 1) := by decide +kernel
theorem dX3_giveBack_79 : decode cX3_giveBack 79 = .ok (.getfield 30, 3) := by decide +kernel
theorem dX3_giveBack_82 : decode cX3_giveBack 82 = .ok (.iload_n 3, 1) := by decide +kernel
theorem dX3_giveBack_83 : decode cX3_giveBack 83 = .ok (.iload_n 1, 1) := by decide +kernel
theorem dX3_giveBack_84 : decode cX3_giveBack 84 = .ok (.invokevirtual 151, 3) := by decide +kernel
theorem dX3_giveBack_87 : decode cX3_giveBack 87 = .ok (.iload 4, 2) := by decide +kernel
theorem dX3_giveBack_89 : decode cX3_giveBack 89 = .ok (.ifCond .eq 7, 3) := by decide +kernel
theorem dX3_giveBack_92 : decode cX3_giveBack 92 = .ok (.iconst 1, 1) := by decide +kernel
theorem dX3_giveBack_93 : decode cX3_giveBack 93 = .ok (.goto 4, 3) := by decide +kernel
theorem dX3_giveBack_96 : decode cX3_giveBack 96 = .ok (.iconst 0, 1) := by decide +kernel
theorem dX3_giveBack_97 : decode cX3_giveBack 97 = .ok (.ireturn, 1) := by decide +kernel
theorem dX3_callBack_0 : decode cX3_callBack 0 = .ok (.aload_n 0, 1) := by decide +kernel
theorem dX3_callBack_1 : decode cX3_callBack 1 = .ok (.getfield 30, 3) := by decide +kernel
theorem dX3_callBack_4 : decode cX3_callBack 4 = .ok (.getfield 97, 3) := by decide +kernel
theorem dX3_callBack_7 : decode cX3_callBack 7 = .ok (.iload_n 1, 1) := by decide +kernel
theorem dX3_callBack_8 : decode cX3_callBack 8 = .ok (.invokevirtual 100, 3) := by decide +kernel
theorem dX3_callBack_11 : decode cX3_callBack 11 = .ok (.iconst 2, 1) := by decide +kernel
theorem dX3_callBack_12 : decode cX3_callBack 12 = .ok (.if_icmp .ne 7, 3) := by decide +kernel
theorem dX3_callBack_15 : decode cX3_callBack 15 = .ok (.iconst 1, 1) := by decide +kernel
theorem dX3_callBack_16 : decode cX3_callBack 16 = .ok (.goto 4, 3) := by decide +kernel
theorem dX3_callBack_19 : decode cX3_callBack 19 = .ok (.iconst 0, 1) := by decide +kernel
theorem dX3_callBack_20 : decode cX3_callBack 20 = .ok (.istore_n 3, 1) := by decide +kernel
theorem dX3_callBack_21 : decode cX3_callBack 21 = .ok (.aload_n 0, 1) := by decide +kernel
theorem dX3_callBack_22 : decode cX3_callBack 22 = .ok (.iload_n 1, 1) := by decide +kernel
theorem dX3_callBack_23 : decode cX3_callBack 23 = .ok (.invokevirtual 154, 3) := by decide +kernel
theorem dX3_callBack_26 : decode cX3_callBack 26 = .ok (.istore 4, 2) := by decide +kernel
theorem dX3_callBack_28 : decode cX3_callBack 28 = .ok (.iconst 0, 1) := by decide +kernel
theorem dX3_callBack_29 : decode cX3_callBack 29 = .ok (.istore 5, 2) := by decide +kernel
theorem dX3_callBack_31 : decode cX3_callBack 31 = .ok (.iconst 0, 1) := by decide +kernel
theorem dX3_callBack_32 : decode cX3_callBack 32 = .ok (.istore 6, 2) := by decide +kernel
theorem dX3_callBack_34 : decode cX3_callBack 34 = .ok (.iload 6, 2) := by decide +kernel
theorem dX3_callBack_36 : decode cX3_callBack 36 = .ok (.bipush 16, 2) := by decide +kernel
theorem dX3_callBack_38 : decode cX3_callBack 38 = .ok (.if_icmp .ge 104, 3) := by decide +kernel
theorem dX3_callBack_41 : decode cX3_callBack 41 = .ok (.iload 6, 2) := by decide +kernel
theorem dX3_callBack_43 : decode cX3_callBack 43 = .ok (.iload_n 2, 1) := by decide +kernel
theorem dX3_callBack_44 : decode cX3_callBack 44 = .ok (.if_icmp .eq 92, 3) := by decide +kernel
theorem dX3_callBack_47 : decode cX3_callBack 47 = .ok (.iload 6, 2) := by decide +kernel
theorem dX3_callBack_49 : decode cX3_callBack 49 = .ok (.iload 4, 2) := by decide +kernel
theorem dX3_callBack_51 : decode cX3_callBack 51 = .ok (.invokestatic 157, 3) := by decide +kernel
theorem dX3_callBack_54 : decode cX3_callBack 54 = .ok (.ifCond .ne 6, 3) := by decide +kernel
theorem dX3_callBack_57 : decode cX3_callBack 57 = .ok (.goto 79, 3) := by decide +kernel
theorem dX3_callBack_60 : decode cX3_callBack 60 = .ok (.aload_n 0, 1) := by decide +kernel
theorem dX3_callBack_61 : decode cX3_callBack 61 = .ok (.getfield 48, 3) := by decide +kernel
theorem dX3_callBack_64 : decode cX3_callBack 64 = .ok (.iconst 0, 1) := by decide +kernel
theorem dX3_callBack_65 : decode cX3_callBack 65 = .ok (.iconst 1, 1) := by decide +kernel
theorem dX3_callBack_66 : decode cX3_callBack 66 = .ok (.invokevirtual 135, 3) := by decide +kernel
theorem dX3_callBack_69 : decode cX3_callBack 69 = .ok (.iload_n 3, 1) := by decide +kernel
theorem dX3_callBack_70 : decode cX3_callBack 70 = .ok (.ifCond .eq 21, 3) := by decide +kernel
theorem dX3_callBack_73 : decode cX3_callBack 73 = .ok (.aload_n 0, 1) := by decide +kernel
theorem dX3_callBack_74 : decode cX3_callBack 74 = .ok (.getfield 48, 3) := by decide +kernel
theorem dX3_callBack_77 : decode cX3_callBack 77 = .ok (.iconst 2, 1) := by decide +kernel
theorem dX3_callBack_78 : decode cX3_callBack 78 = .ok (.iconst 1, 1) := by decide +kernel
theorem dX3_callBack_79 : decode cX3_callBack 79 = .ok (.invokevirtual 135, 3) := by decide +kernel
theorem dX3_callBack_82 : decode cX3_callBack 82 = .ok (.aload_n 0, 1) := by decide +kernel
theorem dX3_callBack_83 : decode cX3_callBack 83 = .ok (.getfield 54, 3) := by decide +kernel
theorem dX3_callBack_86 : decode cX3_callBack 86 = .ok (.iload_n 1, 1) := by decide +kernel
theorem dX3_callBack_87 : decode cX3_callBack 87 = .ok (.iconst 1, 1) := by decide +kernel
theorem dX3_callBack_88 : decode cX3_callBack 88 = .ok (.invokevirtual 135, 3) := by decide +kernel
theorem dX3_callBack_91 : decode cX3_callBack 91 = .ok (.aload_n 0, 1) := by decide +kernel
theorem dX3_callBack_92 : decode cX3_callBack 92 = .ok (.getfield 37, 3) := by decide +kernel
theorem dX3_callBack_95 : decode cX3_callBack 95 = .ok (.iload 6, 2) := by decide +kernel
theorem dX3_callBack_97 : decode cX3_callBack 97 = .ok (.iload_n 1, 1) := by decide +kernel
theorem dX3_callBack_98 : decode cX3_callBack 98 = .ok (.invokevirtual 93, 3) := by decide +kernel
theorem dX3_callBack_101 : decode cX3_callBack 101 = .ok (.ifCond .eq 16, 3) := by decide +kernel
theorem dX3_callBack_104 : decode cX3_callBack 104 = .ok (.iinc 5 1, 3) := by decide +kernel
theorem dX3_callBack_107 : decode cX3_callBack 107 = .ok (.aload_n 0, 1) := by decide +kernel
theorem dX3_callBack_108 : decode cX3_callBack 108 = .ok (.iload 6, 2) := by decide +kernel
theorem dX3_callBack_110 : decode cX3_callBack 110 = .ok (.iload_n 1, 1) := by decide +kernel
theorem dX3_callBack_111 : decode cX3_callBack 111 = .ok (.invokevirtual 160, 3) := by decide +kernel
theorem dX3_callBack_114 : decode cX3_callBack 114 = .ok (.goto 22, 3) := by decide +kernel
theorem dX3_callBack_117 : decode cX3_callBack 117 = .ok (.aload_n 0, 1) := by decide +kernel
theorem dX3_callBack_118 : decode cX3_callBack 118 = .ok (.getfield 48, 3) := by decide +kernel
theorem dX3_callBack_121 : decode cX3_callBack 121 = .ok (.iconst 1, 1) := by decide +kernel
theorem dX3_callBack_122 : decode cX3_callBack 122 = .ok (.iconst 1, 1) := by decide +kernel
theorem dX3_callBack_123 : decode cX3_callBack 123 = .ok (.invokevirtual 135, 3) := by decide +kernel
theorem dX3_callBack_126 : decode cX3_callBack 126 = .ok (.aload_n 0, 1) := by decide +kernel
theorem dX3_callBack_127 : decode cX3_callBack 127 = .ok (.getfield 66, 3) := by decide +kernel
theorem dX3_callBack_130 : decode cX3_callBack 130 = .ok (.iload 6, 2) := by decide +kernel
theorem dX3_callBack_132 : decode cX3_callBack 132 = .ok (.iconst 1, 1) := by decide +kernel
theorem dX3_callBack_133 : decode cX3_callBack 133 = .ok (.invokevirtual 135, 3) := by decide +kernel
theorem dX3_callBack_136 : decode cX3_callBack 136 = .ok (.iinc 6 1, 3) := by decide +kernel
theorem dX3_callBack_139 : decode cX3_callBack 139 = .ok (.goto (-105), 3) := by decide +kernel
theorem dX3_callBack_142 : decode cX3_callBack 142 = .ok (.iload 5, 2) := by decide +kernel
theorem dX3_callBack_144 : decode cX3_callBack 144 = .ok (.ireturn, 1) := by decide +kernel
theorem dX3_takeAway_0 : decode cX3_takeAway 0 = .ok (.aload_n 0, 1) := by decide +kernel
theorem dX3_takeAway_1 : decode cX3_takeAway 1 = .ok (.getfield 37, 3) := by decide +kernel
theorem dX3_takeAway_4 : decode cX3_takeAway 4 = .ok (.iload_n 1, 1) := by decide +kernel
theorem dX3_takeAway_5 : decode cX3_takeAway 5 = .ok (.iload_n 2, 1) := by decide +kernel
theorem dX3_takeAway_6 : decode cX3_takeAway 6 = .ok (.invokevirtual 104, 3) := by decide +kernel
theorem dX3_takeAway_9 : decode cX3_takeAway 9 = .ok (.istore_n 3, 1) := by decide +kernel
theorem dX3_takeAway_10 : decode cX3_takeAway 10 = .ok (.aload_n 0, 1) := by decide +kernel
theorem dX3_takeAway_11 : decode cX3_takeAway 11 = .ok (.getfield 48, 3) := by decide +kernel
theorem dX3_takeAway_14 : decode cX3_takeAway 14 = .ok (.iconst 0, 1) := by decide +kernel
theorem dX3_takeAway_15 : decode cX3_takeAway 15 = .ok (.iconst 1, 1) := by decide +kernel
theorem dX3_takeAway_16 : decode cX3_takeAway 16 = .ok (.invokevirtual 135, 3) := by decide +kernel
theorem dX3_takeAway_19 : decode cX3_takeAway 19 = .ok (.aload_n 0, 1) := by decide +kernel
theorem dX3_takeAway_20 : decode cX3_takeAway 20 = .ok (.getfield 51, 3) := by decide +kernel
theorem dX3_takeAway_23 : decode cX3_takeAway 23 = .ok (.iload_n 2, 1) := by decide +kernel
theorem dX3_takeAway_24 : decode cX3_takeAway 24 = .ok (.iconst 1, 1) := by decide +kernel
theorem dX3_takeAway_25 : decode cX3_takeAway 25 = .ok (.invokevirtual 135, 3) := by decide +kernel
theorem dX3_takeAway_28 : decode cX3_takeAway 28 = .ok (.aload_n 0, 1) := by decide +kernel
theorem dX3_takeAway_29 : decode cX3_takeAway 29 = .ok (.getfield 63, 3) := by decide +kernel
theorem dX3_takeAway_32 : decode cX3_takeAway 32 = .ok (.iload_n 1, 1) := by decide +kernel
theorem dX3_takeAway_33 : decode cX3_takeAway 33 = .ok (.iconst 1, 1) := by decide +kernel
theorem dX3_takeAway_34 : decode cX3_takeAway 34 = .ok (.invokevirtual 135, 3) := by decide +kernel
theorem dX3_takeAway_37 : decode cX3_takeAway 37 = .ok (.aload_n 0, 1) := by decide +kernel
theorem dX3_takeAway_38 : decode cX3_takeAway 38 = .ok (.getfield 37, 3) := by decide +kernel
theorem dX3_takeAway_41 : decode cX3_takeAway 41 = .ok (.iload_n 1, 1) := by decide +kernel
theorem dX3_takeAway_42 : decode cX3_takeAway 42 = .ok (.iload_n 3, 1) := by decide +kernel
theorem dX3_takeAway_43 : decode cX3_takeAway 43 = .ok (.invokevirtual 115, 3) := by decide +kernel
theorem dX3_takeAway_46 : decode cX3_takeAway 46 = .ok (.ifCond .eq 20, 3) := by decide +kernel
theorem dX3_takeAway_49 : decode cX3_takeAway 49 = .ok (.aload_n 0, 1) := by decide +kernel
theorem dX3_takeAway_50 : decode cX3_takeAway 50 = .ok (.getfield 24, 3) := by decide +kernel
theorem dX3_takeAway_53 : decode cX3_takeAway 53 = .ok (.iload_n 2, 1) := by decide +kernel
theorem dX3_takeAway_54 : decode cX3_takeAway 54 = .ok (.aload_n 0, 1) := by decide +kernel
theorem dX3_takeAway_55 : decode cX3_takeAway 55 = .ok (.getfield 37, 3) := by decide +kernel
theorem dX3_takeAway_58 : decode cX3_takeAway 58 = .ok (.iload_n 1, 1) := by decide +kernel
theorem dX3_takeAway_59 : decode cX3_takeAway 59 = .ok (.iload_n 3, 1) := by decide +kernel
theorem dX3_takeAway_60 : decode cX3_takeAway 60 = .ok (.invokevirtual 112, 3) := by decide +kernel
theorem dX3_takeAway_63 : decode cX3_takeAway 63 = .ok (.invokevirtual 69, 3) := by decide +kernel
theorem dX3_takeAway_66 : decode cX3_takeAway 66 = .ok (.aload_n 0, 1) := by decide +kernel
theorem dX3_takeAway_67 : decode cX3_takeAway 67 = .ok (.getfield 37, 3) := by decide +kernel
theorem dX3_takeAway_70 : decode cX3_takeAway 70 = .ok (.iload_n 1, 1) := by decide +kernel
theorem dX3_takeAway_71 : decode cX3_takeAway 71 = .ok (.iload_n 3, 1) := by decide +kernel
theorem dX3_takeAway_72 : decode cX3_takeAway 72 = .ok (.invokevirtual 118, 3) := by decide +kernel
theorem dX3_takeAway_75 : decode cX3_takeAway 75 = .ok (.return_, 1) := by decide +kernel
theorem dX3_makeRoom_0 : decode cX3_makeRoom 0 = .ok (.aload_n 0, 1) := by decide +kernel
theorem dX3_makeRoom_1 : decode cX3_makeRoom 1 = .ok (.iload_n 1, 1) := by decide +kernel
theorem dX3_makeRoom_2 : decode cX3_makeRoom 2 = .ok (.invokevirtual 163, 3) := by decide +kernel
theorem dX3_makeRoom_5 : decode cX3_makeRoom 5 = .ok (.istore_n 2, 1) := by decide +kernel
theorem dX3_makeRoom_6 : decode cX3_makeRoom 6 = .ok (.iconst 0, 1) := by decide +kernel
theorem dX3_makeRoom_7 : decode cX3_makeRoom 7 = .ok (.istore_n 3, 1) := by decide +kernel
theorem dX3_makeRoom_8 : decode cX3_makeRoom 8 = .ok (.iload_n 3, 1) := by decide +kernel
theorem dX3_makeRoom_9 : decode cX3_makeRoom 9 = .ok (.iload_n 2, 1) := by decide +kernel
theorem dX3_makeRoom_10 : decode cX3_makeRoom 10 = .ok (.if_icmp .ge 16, 3) := by decide +kernel
theorem dX3_makeRoom_13 : decode cX3_makeRoom 13 = .ok (.aload_n 0, 1) := by decide +kernel
theorem dX3_makeRoom_14 : decode cX3_makeRoom 14 = .ok (.iload_n 1, 1) := by decide +kernel
theorem dX3_makeRoom_15 : decode cX3_makeRoom 15 = .ok (.iconst 0, 1) := by decide +kernel
theorem dX3_makeRoom_16 : decode cX3_makeRoom 16 = .ok (.invokevirtual 166, 3) := by decide +kernel
theorem dX3_makeRoom_19 : decode cX3_makeRoom 19 = .ok (.pop, 1) := by decide +kernel
theorem dX3_makeRoom_20 : decode cX3_makeRoom 20 = .ok (.iinc 3 1, 3) := by decide +kernel
theorem dX3_makeRoom_23 : decode cX3_makeRoom 23 = .ok (.goto (-15), 3) := by decide +kernel
theorem dX3_makeRoom_26 : decode cX3_makeRoom 26 = .ok (.return_, 1) := by decide +kernel
end
section
theorem dX3_copiesInTheWay_0 : decode cX3_copiesInTheWay 0 = .ok (.iconst 0, 1) := by decide +kernel
theorem dX3_copiesInTheWay_1 : decode cX3_copiesInTheWay 1 = .ok (.aload_n 0, 1) := by decide +kernel
theorem dX3_copiesInTheWay_2 : decode cX3_copiesInTheWay 2 = .ok (.getfield 37, 3) := by decide +kernel
theorem dX3_copiesInTheWay_5 : decode cX3_copiesInTheWay 5 = .ok (.getfield 169, 3) := by decide +kernel
theorem dX3_copiesInTheWay_8 : decode cX3_copiesInTheWay 8 = .ok (.iload_n 1, 1) := by decide +kernel
theorem dX3_copiesInTheWay_9 : decode cX3_copiesInTheWay 9 = .ok (.invokevirtual 100, 3) := by decide +kernel
theorem dX3_copiesInTheWay_12 : decode cX3_copiesInTheWay 12 = .ok (.aload_n 0, 1) := by decide +kernel
theorem dX3_copiesInTheWay_13 : decode cX3_copiesInTheWay 13 = .ok (.getfield 18, 3) := by decide +kernel
theorem dX3_copiesInTheWay_16 : decode cX3_copiesInTheWay 16 = .ok (.iconst 2, 1) := by decide +kernel
theorem dX3_copiesInTheWay_17 : decode cX3_copiesInTheWay 17 = .ok (.invokevirtual 100, 3) := by decide +kernel
theorem dX3_copiesInTheWay_20 : decode cX3_copiesInTheWay 20 = .ok (.isub, 1) := by decide +kernel
theorem dX3_copiesInTheWay_21 : decode cX3_copiesInTheWay 21 = .ok (.iconst 1, 1) := by decide +kernel
theorem dX3_copiesInTheWay_22 : decode cX3_copiesInTheWay 22 = .ok (.iadd, 1) := by decide +kernel
theorem dX3_copiesInTheWay_23 : decode cX3_copiesInTheWay 23 = .ok (.invokestatic 172, 3) := by decide +kernel
theorem dX3_copiesInTheWay_26 : decode cX3_copiesInTheWay 26 = .ok (.ireturn, 1) := by decide +kernel
theorem dX3_noteUse_0 : decode cX3_noteUse 0 = .ok (.aload_n 0, 1) := by decide +kernel
theorem dX3_noteUse_1 : decode cX3_noteUse 1 = .ok (.getfield 57, 3) := by decide +kernel
theorem dX3_noteUse_4 : decode cX3_noteUse 4 = .ok (.iload_n 1, 1) := by decide +kernel
theorem dX3_noteUse_5 : decode cX3_noteUse 5 = .ok (.iconst 1, 1) := by decide +kernel
theorem dX3_noteUse_6 : decode cX3_noteUse 6 = .ok (.invokevirtual 135, 3) := by decide +kernel
theorem dX3_noteUse_9 : decode cX3_noteUse 9 = .ok (.aload_n 0, 1) := by decide +kernel
theorem dX3_noteUse_10 : decode cX3_noteUse 10 = .ok (.getfield 60, 3) := by decide +kernel
theorem dX3_noteUse_13 : decode cX3_noteUse 13 = .ok (.iload_n 1, 1) := by decide +kernel
theorem dX3_noteUse_14 : decode cX3_noteUse 14 = .ok (.iload_n 2, 1) := by decide +kernel
theorem dX3_noteUse_15 : decode cX3_noteUse 15 = .ok (.ifCond .eq 7, 3) := by decide +kernel
theorem dX3_noteUse_18 : decode cX3_noteUse 18 = .ok (.iconst 1, 1) := by decide +kernel
theorem dX3_noteUse_19 : decode cX3_noteUse 19 = .ok (.goto 4, 3) := by decide +kernel
theorem dX3_noteUse_22 : decode cX3_noteUse 22 = .ok (.iconst 0, 1) := by decide +kernel
theorem dX3_noteUse_23 : decode cX3_noteUse 23 = .ok (.invokevirtual 135, 3) := by decide +kernel
theorem dX3_noteUse_26 : decode cX3_noteUse 26 = .ok (.return_, 1) := by decide +kernel
theorem dX3_called_0 : decode cX3_called 0 = .ok (.aload_n 0, 1) := by decide +kernel
theorem dX3_called_1 : decode cX3_called 1 = .ok (.getfield 30, 3) := by decide +kernel
theorem dX3_called_4 : decode cX3_called 4 = .ok (.iload_n 1, 1) := by decide +kernel
theorem dX3_called_5 : decode cX3_called 5 = .ok (.aload_n 0, 1) := by decide +kernel
theorem dX3_called_6 : decode cX3_called 6 = .ok (.getfield 18, 3) := by decide +kernel
theorem dX3_called_9 : decode cX3_called 9 = .ok (.iconst 1, 1) := by decide +kernel
theorem dX3_called_10 : decode cX3_called 10 = .ok (.invokevirtual 100, 3) := by decide +kernel
theorem dX3_called_13 : decode cX3_called 13 = .ok (.invokevirtual 177, 3) := by decide +kernel
theorem dX3_called_16 : decode cX3_called 16 = .ok (.ireturn, 1) := by decide +kernel
theorem dX3_notesThatCall_0 : decode cX3_notesThatCall 0 = .ok (.iconst 0, 1) := by decide +kernel
theorem dX3_notesThatCall_1 : decode cX3_notesThatCall 1 = .ok (.istore_n 2, 1) := by decide +kernel
theorem dX3_notesThatCall_2 : decode cX3_notesThatCall 2 = .ok (.iconst 0, 1) := by decide +kernel
theorem dX3_notesThatCall_3 : decode cX3_notesThatCall 3 = .ok (.istore_n 3, 1) := by decide +kernel
theorem dX3_notesThatCall_4 : decode cX3_notesThatCall 4 = .ok (.iload_n 3, 1) := by decide +kernel
theorem dX3_notesThatCall_5 : decode cX3_notesThatCall 5 = .ok (.bipush 24, 2) := by decide +kernel
theorem dX3_notesThatCall_7 : decode cX3_notesThatCall 7 = .ok (.if_icmp .ge 28, 3) := by decide +kernel
theorem dX3_notesThatCall_10 : decode cX3_notesThatCall 10 = .ok (.iload_n 1, 1) := by decide +kernel
theorem dX3_notesThatCall_11 : decode cX3_notesThatCall 11 = .ok (.aload_n 0, 1) := by decide +kernel
theorem dX3_notesThatCall_12 : decode cX3_notesThatCall 12 = .ok (.iload_n 3, 1) := by decide +kernel
theorem dX3_notesThatCall_13 : decode cX3_notesThatCall 13 = .ok (.invokevirtual 154, 3) := by decide +kernel
theorem dX3_notesThatCall_16 : decode cX3_notesThatCall 16 = .ok (.invokestatic 157, 3) := by decide +kernel
theorem dX3_notesThatCall_19 : decode cX3_notesThatCall 19 = .ok (.ifCond .eq 10, 3) := by decide +kernel
theorem dX3_notesThatCall_22 : decode cX3_notesThatCall 22 = .ok (.iload_n 2, 1) := by decide +kernel
theorem dX3_notesThatCall_23 : decode cX3_notesThatCall 23 = .ok (.iload_n 3, 1) := by decide +kernel
theorem dX3_notesThatCall_24 : decode cX3_notesThatCall 24 = .ok (.invokestatic 145, 3) := by decide +kernel
theorem dX3_notesThatCall_27 : decode cX3_notesThatCall 27 = .ok (.ior, 1) := by decide +kernel
theorem dX3_notesThatCall_28 : decode cX3_notesThatCall 28 = .ok (.istore_n 2, 1) := by decide +kernel
theorem dX3_notesThatCall_29 : decode cX3_notesThatCall 29 = .ok (.iinc 3 1, 3) := by decide +kernel
theorem dX3_notesThatCall_32 : decode cX3_notesThatCall 32 = .ok (.goto (-28), 3) := by decide +kernel
theorem dX3_notesThatCall_35 : decode cX3_notesThatCall 35 = .ok (.iload_n 2, 1) := by decide +kernel
theorem dX3_notesThatCall_36 : decode cX3_notesThatCall 36 = .ok (.ireturn, 1) := by decide +kernel
theorem dX3_valueToRead_0 : decode cX3_valueToRead 0 = .ok (.iconst 0, 1) := by decide +kernel
theorem dX3_valueToRead_1 : decode cX3_valueToRead 1 = .ok (.istore_n 2, 1) := by decide +kernel
theorem dX3_valueToRead_2 : decode cX3_valueToRead 2 = .ok (.iload_n 2, 1) := by decide +kernel
theorem dX3_valueToRead_3 : decode cX3_valueToRead 3 = .ok (.bipush 16, 2) := by decide +kernel
theorem dX3_valueToRead_5 : decode cX3_valueToRead 5 = .ok (.if_icmp .ge 39, 3) := by decide +kernel
theorem dX3_valueToRead_8 : decode cX3_valueToRead 8 = .ok (.aload_n 0, 1) := by decide +kernel
theorem dX3_valueToRead_9 : decode cX3_valueToRead 9 = .ok (.getfield 30, 3) := by decide +kernel
theorem dX3_valueToRead_12 : decode cX3_valueToRead 12 = .ok (.iload_n 1, 1) := by decide +kernel
theorem dX3_valueToRead_13 : decode cX3_valueToRead 13 = .ok (.iload_n 2, 1) := by decide +kernel
theorem dX3_valueToRead_14 : decode cX3_valueToRead 14 = .ok (.invokevirtual 142, 3) := by decide +kernel
theorem dX3_valueToRead_17 : decode cX3_valueToRead 17 = .ok (.ifCond .eq 21, 3) := by decide +kernel
theorem dX3_valueToRead_20 : decode cX3_valueToRead 20 = .ok (.aload_n 0, 1) := by decide +kernel
theorem dX3_valueToRead_21 : decode cX3_valueToRead 21 = .ok (.getfield 37, 3) := by decide +kernel
theorem dX3_valueToRead_24 : decode cX3_valueToRead 24 = .ok (.iload_n 2, 1) := by decide +kernel
theorem dX3_valueToRead_25 : decode cX3_valueToRead 25 = .ok (.aload_n 0, 1) := by decide +kernel
theorem dX3_valueToRead_26 : decode cX3_valueToRead 26 = .ok (.getfield 37, 3) := by decide +kernel
theorem dX3_valueToRead_29 : decode cX3_valueToRead 29 = .ok (.iload_n 2, 1) := by decide +kernel
theorem dX3_valueToRead_30 : decode cX3_valueToRead 30 = .ok (.iload_n 1, 1) := by decide +kernel
theorem dX3_valueToRead_31 : decode cX3_valueToRead 31 = .ok (.invokevirtual 104, 3) := by decide +kernel
theorem dX3_valueToRead_34 : decode cX3_valueToRead 34 = .ok (.invokevirtual 112, 3) := by decide +kernel
theorem dX3_valueToRead_37 : decode cX3_valueToRead 37 = .ok (.ireturn, 1) := by decide +kernel
theorem dX3_valueToRead_38 : decode cX3_valueToRead 38 = .ok (.iinc 2 1, 3) := by decide +kernel
theorem dX3_valueToRead_41 : decode cX3_valueToRead 41 = .ok (.goto (-39), 3) := by decide +kernel
theorem dX3_valueToRead_44 : decode cX3_valueToRead 44 = .ok (.aload_n 0, 1) := by decide +kernel
theorem dX3_valueToRead_45 : decode cX3_valueToRead 45 = .ok (.getfield 24, 3) := by decide +kernel
theorem dX3_valueToRead_48 : decode cX3_valueToRead 48 = .ok (.iload_n 1, 1) := by decide +kernel
theorem dX3_valueToRead_49 : decode cX3_valueToRead 49 = .ok (.invokevirtual 100, 3) := by decide +kernel
theorem dX3_valueToRead_52 : decode cX3_valueToRead 52 = .ok (.ireturn, 1) := by decide +kernel
theorem dX3_messagesToRead_0 : decode cX3_messagesToRead 0 = .ok (.aload_n 0, 1) := by decide +kernel
theorem dX3_messagesToRead_1 : decode cX3_messagesToRead 1 = .ok (.getfield 37, 3) := by decide +kernel
theorem dX3_messagesToRead_4 : decode cX3_messagesToRead 4 = .ok (.iload_n 1, 1) := by decide +kernel
theorem dX3_messagesToRead_5 : decode cX3_messagesToRead 5 = .ok (.iload_n 2, 1) := by decide +kernel
theorem dX3_messagesToRead_6 : decode cX3_messagesToRead 6 = .ok (.invokevirtual 93, 3) := by decide +kernel
theorem dX3_messagesToRead_9 : decode cX3_messagesToRead 9 = .ok (.ifCond .eq 5, 3) := by decide +kernel
theorem dX3_messagesToRead_12 : decode cX3_messagesToRead 12 = .ok (.iconst 0, 1) := by decide +kernel
theorem dX3_messagesToRead_13 : decode cX3_messagesToRead 13 = .ok (.ireturn, 1) := by decide +kernel
theorem dX3_messagesToRead_14 : decode cX3_messagesToRead 14 = .ok (.aload_n 0, 1) := by decide +kernel
theorem dX3_messagesToRead_15 : decode cX3_messagesToRead 15 = .ok (.getfield 30, 3) := by decide +kernel
theorem dX3_messagesToRead_18 : decode cX3_messagesToRead 18 = .ok (.getfield 97, 3) := by decide +kernel
theorem dX3_messagesToRead_21 : decode cX3_messagesToRead 21 = .ok (.iload_n 2, 1) := by decide +kernel
theorem dX3_messagesToRead_22 : decode cX3_messagesToRead 22 = .ok (.invokevirtual 100, 3) := by decide +kernel
theorem dX3_messagesToRead_25 : decode cX3_messagesToRead 25 = .ok (.iconst 3, 1) := by decide +kernel
theorem dX3_messagesToRead_26 : decode cX3_messagesToRead 26 = .ok (.if_icmp .ne 7, 3) := by decide +kernel
theorem dX3_messagesToRead_29 : decode cX3_messagesToRead 29 = .ok (.iconst 2, 1) := by decide +kernel
theorem dX3_messagesToRead_30 : decode cX3_messagesToRead 30 = .ok (.goto 4, 3) := by decide +kernel
theorem dX3_messagesToRead_33 : decode cX3_messagesToRead 33 = .ok (.iconst 0, 1) := by decide +kernel
theorem dX3_messagesToRead_34 : decode cX3_messagesToRead 34 = .ok (.istore_n 3, 1) := by decide +kernel
theorem dX3_messagesToRead_35 : decode cX3_messagesToRead 35 = .ok (.iload_n 3, 1) := by decide +kernel
theorem dX3_messagesToRead_36 : decode cX3_messagesToRead 36 = .ok (.aload_n 0, 1) := by decide +kernel
theorem dX3_messagesToRead_37 : decode cX3_messagesToRead 37 = .ok (.iload_n 1, 1) := by decide +kernel
theorem dX3_messagesToRead_38 : decode cX3_messagesToRead 38 = .ok (.invokevirtual 179, 3) := by decide +kernel
theorem dX3_messagesToRead_41 : decode cX3_messagesToRead 41 = .ok (.iadd, 1) := by decide +kernel
theorem dX3_messagesToRead_42 : decode cX3_messagesToRead 42 = .ok (.iconst 2, 1) := by decide +kernel
theorem dX3_messagesToRead_43 : decode cX3_messagesToRead 43 = .ok (.iadd, 1) := by decide +kernel
theorem dX3_messagesToRead_44 : decode cX3_messagesToRead 44 = .ok (.ireturn, 1) := by decide +kernel
theorem dX3_messagesToChange_0 : decode cX3_messagesToChange 0 = .ok (.aload_n 0, 1) := by decide +kernel
theorem dX3_messagesToChange_1 : decode cX3_messagesToChange 1 = .ok (.getfield 30, 3) := by decide +kernel
theorem dX3_messagesToChange_4 : decode cX3_messagesToChange 4 = .ok (.iload_n 2, 1) := by decide +kernel
theorem dX3_messagesToChange_5 : decode cX3_messagesToChange 5 = .ok (.iload_n 1, 1) := by decide +kernel
theorem dX3_messagesToChange_6 : decode cX3_messagesToChange 6 = .ok (.invokevirtual 142, 3) := by decide +kernel
theorem dX3_messagesToChange_9 : decode cX3_messagesToChange 9 = .ok (.ifCond .eq 5, 3) := by decide +kernel
theorem dX3_messagesToChange_12 : decode cX3_messagesToChange 12 = .ok (.iconst 0, 1) := by decide +kernel
theorem dX3_messagesToChange_13 : decode cX3_messagesToChange 13 = .ok (.ireturn, 1) := by decide +kernel
theorem dX3_messagesToChange_14 : decode cX3_messagesToChange 14 = .ok (.aload_n 0, 1) := by decide +kernel
theorem dX3_messagesToChange_15 : decode cX3_messagesToChange 15 = .ok (.iload_n 2, 1) := by decide +kernel
theorem dX3_messagesToChange_16 : decode cX3_messagesToChange 16 = .ok (.invokevirtual 154, 3) := by decide +kernel
theorem dX3_messagesToChange_19 : decode cX3_messagesToChange 19 = .ok (.iload_n 1, 1) := by decide +kernel
theorem dX3_messagesToChange_20 : decode cX3_messagesToChange 20 = .ok (.invokestatic 145, 3) := by decide +kernel
theorem dX3_messagesToChange_23 : decode cX3_messagesToChange 23 = .ok (.iconst (-1), 1) := by decide +kernel
theorem dX3_messagesToChange_24 : decode cX3_messagesToChange 24 = .ok (.ixor, 1) := by decide +kernel
theorem dX3_messagesToChange_25 : decode cX3_messagesToChange 25 = .ok (.iand, 1) := by decide +kernel
theorem dX3_messagesToChange_26 : decode cX3_messagesToChange 26 = .ok (.istore_n 3, 1) := by decide +kernel
theorem dX3_messagesToChange_27 : decode cX3_messagesToChange 27 = .ok (.iload_n 3, 1) := by decide +kernel
theorem dX3_messagesToChange_28 : decode cX3_messagesToChange 28 = .ok (.aload_n 0, 1) := by decide +kernel
theorem dX3_messagesToChange_29 : decode cX3_messagesToChange 29 = .ok (.getfield 37, 3) := by decide +kernel
theorem dX3_messagesToChange_32 : decode cX3_messagesToChange 32 = .ok (.getfield 182, 3) := by decide +kernel
theorem dX3_messagesToChange_35 : decode cX3_messagesToChange 35 = .ok (.iload_n 2, 1) := by decide +kernel
theorem dX3_messagesToChange_36 : decode cX3_messagesToChange 36 = .ok (.invokevirtual 100, 3) := by decide +kernel
theorem dX3_messagesToChange_39 : decode cX3_messagesToChange 39 = .ok (.iand, 1) := by decide +kernel
theorem dX3_messagesToChange_40 : decode cX3_messagesToChange 40 = .ok (.istore 4, 2) := by decide +kernel
theorem dX3_messagesToChange_42 : decode cX3_messagesToChange 42 = .ok (.aload_n 0, 1) := by decide +kernel
theorem dX3_messagesToChange_43 : decode cX3_messagesToChange 43 = .ok (.getfield 37, 3) := by decide +kernel
theorem dX3_messagesToChange_46 : decode cX3_messagesToChange 46 = .ok (.iload_n 1, 1) := by decide +kernel
theorem dX3_messagesToChange_47 : decode cX3_messagesToChange 47 = .ok (.iload_n 2, 1) := by decide +kernel
theorem dX3_messagesToChange_48 : decode cX3_messagesToChange 48 = .ok (.invokevirtual 93, 3) := by decide +kernel
theorem dX3_messagesToChange_51 : decode cX3_messagesToChange 51 = .ok (.ifCond .eq 7, 3) := by decide +kernel
theorem dX3_messagesToChange_54 : decode cX3_messagesToChange 54 = .ok (.iconst 0, 1) := by decide +kernel
theorem dX3_messagesToChange_55 : decode cX3_messagesToChange 55 = .ok (.goto 8, 3) := by decide +kernel
theorem dX3_messagesToChange_58 : decode cX3_messagesToChange 58 = .ok (.aload_n 0, 1) := by decide +kernel
theorem dX3_messagesToChange_59 : decode cX3_messagesToChange 59 = .ok (.iload_n 1, 1) := by decide +kernel
theorem dX3_messagesToChange_60 : decode cX3_messagesToChange 60 = .ok (.invokevirtual 179, 3) := by decide +kernel
theorem dX3_messagesToChange_63 : decode cX3_messagesToChange 63 = .ok (.istore 5, 2) := by decide +kernel
theorem dX3_messagesToChange_65 : decode cX3_messagesToChange 65 = .ok (.iload_n 3, 1) := by decide +kernel
theorem dX3_messagesToChange_66 : decode cX3_messagesToChange 66 = .ok (.invokestatic 185, 3) := by decide +kernel
theorem dX3_messagesToChange_69 : decode cX3_messagesToChange 69 = .ok (.iload 4, 2) := by decide +kernel
theorem dX3_messagesToChange_71 : decode cX3_messagesToChange 71 = .ok (.invokestatic 185, 3) := by decide +kernel
theorem dX3_messagesToChange_74 : decode cX3_messagesToChange 74 = .ok (.iadd, 1) := by decide +kernel
theorem dX3_messagesToChange_75 : decode cX3_messagesToChange 75 = .ok (.iload 5, 2) := by decide +kernel
theorem dX3_messagesToChange_77 : decode cX3_messagesToChange 77 = .ok (.iadd, 1) := by decide +kernel
theorem dX3_messagesToChange_78 : decode cX3_messagesToChange 78 = .ok (.iconst 2, 1) := by decide +kernel
theorem dX3_messagesToChange_79 : decode cX3_messagesToChange 79 = .ok (.iadd, 1) := by decide +kernel
theorem dX3_messagesToChange_80 : decode cX3_messagesToChange 80 = .ok (.ireturn, 1) := by decide +kernel
theorem dX3_wastedToChange_0 : decode cX3_wastedToChange 0 = .ok (.aload_n 0, 1) := by decide +kernel
theorem dX3_wastedToChange_1 : decode cX3_wastedToChange 1 = .ok (.iload_n 2, 1) := by decide +kernel
theorem dX3_wastedToChange_2 : decode cX3_wastedToChange 2 = .ok (.invokevirtual 154, 3) := by decide +kernel
theorem dX3_wastedToChange_5 : decode cX3_wastedToChange 5 = .ok (.iload_n 1, 1) := by decide +kernel
theorem dX3_wastedToChange_6 : decode cX3_wastedToChange 6 = .ok (.invokestatic 145, 3) := by decide +kernel
theorem dX3_wastedToChange_9 : decode cX3_wastedToChange 9 = .ok (.iconst (-1), 1) := by decide +kernel
theorem dX3_wastedToChange_10 : decode cX3_wastedToChange 10 = .ok (.ixor, 1) := by decide +kernel
theorem dX3_wastedToChange_11 : decode cX3_wastedToChange 11 = .ok (.iand, 1) := by decide +kernel
theorem dX3_wastedToChange_12 : decode cX3_wastedToChange 12 = .ok (.aload_n 0, 1) := by decide +kernel
theorem dX3_wastedToChange_13 : decode cX3_wastedToChange 13 = .ok (.getfield 37, 3) := by decide +kernel
theorem dX3_wastedToChange_16 : decode cX3_wastedToChange 16 = .ok (.getfield 182, 3) := by decide +kernel
theorem dX3_wastedToChange_19 : decode cX3_wastedToChange 19 = .ok (.iload_n 2, 1) := by decide +kernel
theorem dX3_wastedToChange_20 : decode cX3_wastedToChange 20 = .ok (.invokevirtual 100, 3) := by decide +kernel
theorem dX3_wastedToChange_23 : decode cX3_wastedToChange 23 = .ok (.iconst (-1), 1) := by decide +kernel
theorem dX3_wastedToChange_24 : decode cX3_wastedToChange 24 = .ok (.ixor, 1) := by decide +kernel
theorem dX3_wastedToChange_25 : decode cX3_wastedToChange 25 = .ok (.iand, 1) := by decide +kernel
theorem dX3_wastedToChange_26 : decode cX3_wastedToChange 26 = .ok (.invokestatic 185, 3) := by decide +kernel
theorem dX3_wastedToChange_29 : decode cX3_wastedToChange 29 = .ok (.ireturn, 1) := by decide +kernel
theorem dX3_fewestWasted_0 : decode cX3_fewestWasted 0 = .ok (.aload_n 0, 1) := by decide +kernel
theorem dX3_fewestWasted_1 : decode cX3_fewestWasted 1 = .ok (.iload_n 1, 1) := by decide +kernel
theorem dX3_fewestWasted_2 : decode cX3_fewestWasted 2 = .ok (.invokevirtual 154, 3) := by decide +kernel
theorem dX3_fewestWasted_5 : decode cX3_fewestWasted 5 = .ok (.aload_n 0, 1) := by decide +kernel
theorem dX3_fewestWasted_6 : decode cX3_fewestWasted 6 = .ok (.getfield 37, 3) := by decide +kernel
theorem dX3_fewestWasted_9 : decode cX3_fewestWasted 9 = .ok (.getfield 182, 3) := by decide +kernel
theorem dX3_fewestWasted_12 : decode cX3_fewestWasted 12 = .ok (.iload_n 1, 1) := by decide +kernel
theorem dX3_fewestWasted_13 : decode cX3_fewestWasted 13 = .ok (.invokevirtual 100, 3) := by decide +kernel
theorem dX3_fewestWasted_16 : decode cX3_fewestWasted 16 = .ok (.iconst (-1), 1) := by decide +kernel
theorem dX3_fewestWasted_17 : decode cX3_fewestWasted 17 = .ok (.ixor, 1) := by decide +kernel
theorem dX3_fewestWasted_18 : decode cX3_fewestWasted 18 = .ok (.iand, 1) := by decide +kernel
theorem dX3_fewestWasted_19 : decode cX3_fewestWasted 19 = .ok (.istore_n 2, 1) := by decide +kernel
theorem dX3_fewestWasted_20 : decode cX3_fewestWasted 20 = .ok (.iload_n 2, 1) := by decide +kernel
theorem dX3_fewestWasted_21 : decode cX3_fewestWasted 21 = .ok (.invokestatic 185, 3) := by decide +kernel
theorem dX3_fewestWasted_24 : decode cX3_fewestWasted 24 = .ok (.istore_n 3, 1) := by decide +kernel
theorem dX3_fewestWasted_25 : decode cX3_fewestWasted 25 = .ok (.iload_n 3, 1) := by decide +kernel
theorem dX3_fewestWasted_26 : decode cX3_fewestWasted 26 = .ok (.ifCond .le 9, 3) := by decide +kernel
theorem dX3_fewestWasted_29 : decode cX3_fewestWasted 29 = .ok (.iload_n 3, 1) := by decide +kernel
theorem dX3_fewestWasted_30 : decode cX3_fewestWasted 30 = .ok (.iconst 1, 1) := by decide +kernel
theorem dX3_fewestWasted_31 : decode cX3_fewestWasted 31 = .ok (.isub, 1) := by decide +kernel
theorem dX3_fewestWasted_32 : decode cX3_fewestWasted 32 = .ok (.goto 4, 3) := by decide +kernel
theorem dX3_fewestWasted_35 : decode cX3_fewestWasted 35 = .ok (.iconst 0, 1) := by decide +kernel
theorem dX3_fewestWasted_36 : decode cX3_fewestWasted 36 = .ok (.ireturn, 1) := by decide +kernel
theorem dX3_messagesToMakeRoom_0 : decode cX3_messagesToMakeRoom 0 = .ok (.aload_n 0, 1) := by decide +kernel
theorem dX3_messagesToMakeRoom_1 : decode cX3_messagesToMakeRoom 1 = .ok (.iload_n 1, 1) := by decide +kernel
theorem dX3_messagesToMakeRoom_2 : decode cX3_messagesToMakeRoom 2 = .ok (.invokevirtual 163, 3) := by decide +kernel
theorem dX3_messagesToMakeRoom_5 : decode cX3_messagesToMakeRoom 5 = .ok (.istore_n 2, 1) := by decide +kernel
theorem dX3_messagesToMakeRoom_6 : decode cX3_messagesToMakeRoom 6 = .ok (.aload_n 0, 1) := by decide +kernel
theorem dX3_messagesToMakeRoom_7 : decode cX3_messagesToMakeRoom 7 = .ok (.getfield 18, 3) := by decide +kernel
theorem dX3_messagesToMakeRoom_10 : decode cX3_messagesToMakeRoom 10 = .ok (.iconst 3, 1) := by decide +kernel
theorem dX3_messagesToMakeRoom_11 : decode cX3_messagesToMakeRoom 11 = .ok (.invokevirtual 100, 3) := by decide +kernel
theorem dX3_messagesToMakeRoom_14 : decode cX3_messagesToMakeRoom 14 = .ok (.iconst 1, 1) := by decide +kernel
theorem dX3_messagesToMakeRoom_15 : decode cX3_messagesToMakeRoom 15 = .ok (.if_icmp .ne 5, 3) := by decide +kernel
theorem dX3_messagesToMakeRoom_18 : decode cX3_messagesToMakeRoom 18 = .ok (.iload_n 2, 1) := by decide +kernel
theorem dX3_messagesToMakeRoom_19 : decode cX3_messagesToMakeRoom 19 = .ok (.ireturn, 1) := by decide +kernel
theorem dX3_messagesToMakeRoom_20 : decode cX3_messagesToMakeRoom 20 = .ok (.iconst 0, 1) := by decide +kernel
theorem dX3_messagesToMakeRoom_21 : decode cX3_messagesToMakeRoom 21 = .ok (.istore_n 3, 1) := by decide +kernel
theorem dX3_messagesToMakeRoom_22 : decode cX3_messagesToMakeRoom 22 = .ok (.iconst 0, 1) := by decide +kernel
theorem dX3_messagesToMakeRoom_23 : decode cX3_messagesToMakeRoom 23 = .ok (.istore 4, 2) := by decide +kernel
theorem dX3_messagesToMakeRoom_25 : decode cX3_messagesToMakeRoom 25 = .ok (.iload 4, 2) := by decide +kernel
theorem dX3_messagesToMakeRoom_27 : decode cX3_messagesToMakeRoom 27 = .ok (.iload_n 2, 1) := by decide +kernel
theorem dX3_messagesToMakeRoom_28 : decode cX3_messagesToMakeRoom 28 = .ok (.if_icmp .ge 30, 3) := by decide +kernel
theorem dX3_messagesToMakeRoom_31 : decode cX3_messagesToMakeRoom 31 = .ok (.iload_n 3, 1) := by decide +kernel
theorem dX3_messagesToMakeRoom_32 : decode cX3_messagesToMakeRoom 32 = .ok (.aload_n 0, 1) := by decide +kernel
theorem dX3_messagesToMakeRoom_33 : decode cX3_messagesToMakeRoom 33 = .ok (.getfield 37, 3) := by decide +kernel
theorem dX3_messagesToMakeRoom_36 : decode cX3_messagesToMakeRoom 36 = .ok (.iload_n 1, 1) := by decide +kernel
theorem dX3_messagesToMakeRoom_37 : decode cX3_messagesToMakeRoom 37 = .ok (.iload 4, 2) := by decide +kernel
theorem dX3_messagesToMakeRoom_39 : decode cX3_messagesToMakeRoom 39 = .ok (.invokevirtual 115, 3) := by decide +kernel
theorem dX3_messagesToMakeRoom_42 : decode cX3_messagesToMakeRoom 42 = .ok (.ifCond .eq 7, 3) := by decide +kernel
theorem dX3_messagesToMakeRoom_45 : decode cX3_messagesToMakeRoom 45 = .ok (.iconst 1, 1) := by decide +kernel
theorem dX3_messagesToMakeRoom_46 : decode cX3_messagesToMakeRoom 46 = .ok (.goto 4, 3) := by decide +kernel
theorem dX3_messagesToMakeRoom_49 : decode cX3_messagesToMakeRoom 49 = .ok (.iconst 0, 1) := by decide +kernel
theorem dX3_messagesToMakeRoom_50 : decode cX3_messagesToMakeRoom 50 = .ok (.iadd, 1) := by decide +kernel
theorem dX3_messagesToMakeRoom_51 : decode cX3_messagesToMakeRoom 51 = .ok (.istore_n 3, 1) := by decide +kernel
theorem dX3_messagesToMakeRoom_52 : decode cX3_messagesToMakeRoom 52 = .ok (.iinc 4 1, 3) := by decide +kernel
theorem dX3_messagesToMakeRoom_55 : decode cX3_messagesToMakeRoom 55 = .ok (.goto (-30), 3) := by decide +kernel
theorem dX3_messagesToMakeRoom_58 : decode cX3_messagesToMakeRoom 58 = .ok (.iload_n 3, 1) := by decide +kernel
theorem dX3_messagesToMakeRoom_59 : decode cX3_messagesToMakeRoom 59 = .ok (.ireturn, 1) := by decide +kernel
theorem dX3_messagesOfAccount_0 : decode cX3_messagesOfAccount 0 = .ok (.aload_n 0, 1) := by decide +kernel
theorem dX3_messagesOfAccount_1 : decode cX3_messagesOfAccount 1 = .ok (.getfield 18, 3) := by decide +kernel
theorem dX3_messagesOfAccount_4 : decode cX3_messagesOfAccount 4 = .ok (.aload_n 1, 1) := by decide +kernel
theorem dX3_messagesOfAccount_5 : decode cX3_messagesOfAccount 5 = .ok (.getfield 18, 3) := by decide +kernel
theorem dX3_messagesOfAccount_8 : decode cX3_messagesOfAccount 8 = .ok (.invokevirtual 73, 3) := by decide +kernel
theorem dX3_messagesOfAccount_11 : decode cX3_messagesOfAccount 11 = .ok (.aload_n 0, 1) := by decide +kernel
theorem dX3_messagesOfAccount_12 : decode cX3_messagesOfAccount 12 = .ok (.getfield 18, 3) := by decide +kernel
theorem dX3_messagesOfAccount_15 : decode cX3_messagesOfAccount 15 = .ok (.iconst 0, 1) := by decide +kernel
theorem dX3_messagesOfAccount_16 : decode cX3_messagesOfAccount 16 = .ok (.iload_n 2, 1) := by decide +kernel
theorem dX3_messagesOfAccount_17 : decode cX3_messagesOfAccount 17 = .ok (.invokevirtual 69, 3) := by decide +kernel
theorem dX3_messagesOfAccount_20 : decode cX3_messagesOfAccount 20 = .ok (.aload_n 0, 1) := by decide +kernel
theorem dX3_messagesOfAccount_21 : decode cX3_messagesOfAccount 21 = .ok (.getfield 18, 3) := by decide +kernel
theorem dX3_messagesOfAccount_24 : decode cX3_messagesOfAccount 24 = .ok (.iconst 1, 1) := by decide +kernel
theorem dX3_messagesOfAccount_25 : decode cX3_messagesOfAccount 25 = .ok (.iload_n 3, 1) := by decide +kernel
theorem dX3_messagesOfAccount_26 : decode cX3_messagesOfAccount 26 = .ok (.invokevirtual 69, 3) := by decide +kernel
theorem dX3_messagesOfAccount_29 : decode cX3_messagesOfAccount 29 = .ok (.aload_n 0, 1) := by decide +kernel
theorem dX3_messagesOfAccount_30 : decode cX3_messagesOfAccount 30 = .ok (.getfield 30, 3) := by decide +kernel
theorem dX3_messagesOfAccount_33 : decode cX3_messagesOfAccount 33 = .ok (.invokevirtual 190, 3) := by decide +kernel
theorem dX3_messagesOfAccount_36 : decode cX3_messagesOfAccount 36 = .ok (.aload_n 0, 1) := by decide +kernel
theorem dX3_messagesOfAccount_37 : decode cX3_messagesOfAccount 37 = .ok (.getfield 37, 3) := by decide +kernel
theorem dX3_messagesOfAccount_40 : decode cX3_messagesOfAccount 40 = .ok (.invokevirtual 193, 3) := by decide +kernel
theorem dX3_messagesOfAccount_43 : decode cX3_messagesOfAccount 43 = .ok (.aload_n 0, 1) := by decide +kernel
theorem dX3_messagesOfAccount_44 : decode cX3_messagesOfAccount 44 = .ok (.getfield 48, 3) := by decide +kernel
theorem dX3_messagesOfAccount_47 : decode cX3_messagesOfAccount 47 = .ok (.invokevirtual 194, 3) := by decide +kernel
theorem dX3_messagesOfAccount_50 : decode cX3_messagesOfAccount 50 = .ok (.iconst 0, 1) := by decide +kernel
theorem dX3_messagesOfAccount_51 : decode cX3_messagesOfAccount 51 = .ok (.istore 4, 2) := by decide +kernel
theorem dX3_messagesOfAccount_53 : decode cX3_messagesOfAccount 53 = .ok (.iload 4, 2) := by decide +kernel
theorem dX3_messagesOfAccount_55 : decode cX3_messagesOfAccount 55 = .ok (.aload_n 1, 1) := by decide +kernel
theorem dX3_messagesOfAccount_56 : decode cX3_messagesOfAccount 56 = .ok (.getfield 44, 3) := by decide +kernel
theorem dX3_messagesOfAccount_59 : decode cX3_messagesOfAccount 59 = .ok (.getfield 195, 3) := by decide +kernel
theorem dX3_messagesOfAccount_62 : decode cX3_messagesOfAccount 62 = .ok (.if_icmp .ge 86, 3) := by decide +kernel
theorem dX3_messagesOfAccount_65 : decode cX3_messagesOfAccount 65 = .ok (.aload_n 1, 1) := by decide +kernel
theorem dX3_messagesOfAccount_66 : decode cX3_messagesOfAccount 66 = .ok (.getfield 44, 3) := by decide +kernel
theorem dX3_messagesOfAccount_69 : decode cX3_messagesOfAccount 69 = .ok (.iload 4, 2) := by decide +kernel
theorem dX3_messagesOfAccount_71 : decode cX3_messagesOfAccount 71 = .ok (.invokevirtual 199, 3) := by decide +kernel
theorem dX3_messagesOfAccount_74 : decode cX3_messagesOfAccount 74 = .ok (.istore 5, 2) := by decide +kernel
theorem dX3_messagesOfAccount_76 : decode cX3_messagesOfAccount 76 = .ok (.aload_n 1, 1) := by decide +kernel
theorem dX3_messagesOfAccount_77 : decode cX3_messagesOfAccount 77 = .ok (.getfield 44, 3) := by decide +kernel
theorem dX3_messagesOfAccount_80 : decode cX3_messagesOfAccount 80 = .ok (.getfield 202, 3) := by decide +kernel
theorem dX3_messagesOfAccount_83 : decode cX3_messagesOfAccount 83 = .ok (.iload 5, 2) := by decide +kernel
theorem dX3_messagesOfAccount_85 : decode cX3_messagesOfAccount 85 = .ok (.invokevirtual 100, 3) := by decide +kernel
theorem dX3_messagesOfAccount_88 : decode cX3_messagesOfAccount 88 = .ok (.istore 6, 2) := by decide +kernel
theorem dX3_messagesOfAccount_90 : decode cX3_messagesOfAccount 90 = .ok (.aload_n 1, 1) := by decide +kernel
theorem dX3_messagesOfAccount_91 : decode cX3_messagesOfAccount 91 = .ok (.getfield 44, 3) := by decide +kernel
theorem dX3_messagesOfAccount_94 : decode cX3_messagesOfAccount 94 = .ok (.getfield 205, 3) := by decide +kernel
theorem dX3_messagesOfAccount_97 : decode cX3_messagesOfAccount 97 = .ok (.iload 5, 2) := by decide +kernel
theorem dX3_messagesOfAccount_99 : decode cX3_messagesOfAccount 99 = .ok (.invokevirtual 100, 3) := by decide +kernel
theorem dX3_messagesOfAccount_102 : decode cX3_messagesOfAccount 102 = .ok (.istore 7, 2) := by decide +kernel
theorem dX3_messagesOfAccount_104 : decode cX3_messagesOfAccount 104 = .ok (.aload_n 1, 1) := by decide +kernel
theorem dX3_messagesOfAccount_105 : decode cX3_messagesOfAccount 105 = .ok (.getfield 44, 3) := by decide +kernel
theorem dX3_messagesOfAccount_108 : decode cX3_messagesOfAccount 108 = .ok (.getfield 208, 3) := by decide +kernel
theorem dX3_messagesOfAccount_111 : decode cX3_messagesOfAccount 111 = .ok (.iload 5, 2) := by decide +kernel
theorem dX3_messagesOfAccount_113 : decode cX3_messagesOfAccount 113 = .ok (.invokevirtual 100, 3) := by decide +kernel
theorem dX3_messagesOfAccount_116 : decode cX3_messagesOfAccount 116 = .ok (.iconst 1, 1) := by decide +kernel
theorem dX3_messagesOfAccount_117 : decode cX3_messagesOfAccount 117 = .ok (.if_icmp .ne 16, 3) := by decide +kernel
theorem dX3_messagesOfAccount_120 : decode cX3_messagesOfAccount 120 = .ok (.aload_n 0, 1) := by decide +kernel
theorem dX3_messagesOfAccount_121 : decode cX3_messagesOfAccount 121 = .ok (.iload 6, 2) := by decide +kernel
theorem dX3_messagesOfAccount_123 : decode cX3_messagesOfAccount 123 = .ok (.iload 7, 2) := by decide +kernel
theorem dX3_messagesOfAccount_125 : decode cX3_messagesOfAccount 125 = .ok (.iconst 0, 1) := by decide +kernel
theorem dX3_messagesOfAccount_126 : decode cX3_messagesOfAccount 126 = .ok (.invokevirtual 209, 3) := by decide +kernel
theorem dX3_messagesOfAccount_129 : decode cX3_messagesOfAccount 129 = .ok (.pop, 1) := by decide +kernel
theorem dX3_messagesOfAccount_130 : decode cX3_messagesOfAccount 130 = .ok (.goto 12, 3) := by decide +kernel
theorem dX3_messagesOfAccount_133 : decode cX3_messagesOfAccount 133 = .ok (.aload_n 0, 1) := by decide +kernel
theorem dX3_messagesOfAccount_134 : decode cX3_messagesOfAccount 134 = .ok (.iload 6, 2) := by decide +kernel
theorem dX3_messagesOfAccount_136 : decode cX3_messagesOfAccount 136 = .ok (.iload 7, 2) := by decide +kernel
theorem dX3_messagesOfAccount_138 : decode cX3_messagesOfAccount 138 = .ok (.invokevirtual 213, 3) := by decide +kernel
theorem dX3_messagesOfAccount_141 : decode cX3_messagesOfAccount 141 = .ok (.pop, 1) := by decide +kernel
theorem dX3_messagesOfAccount_142 : decode cX3_messagesOfAccount 142 = .ok (.iinc 4 1, 3) := by decide +kernel
theorem dX3_messagesOfAccount_145 : decode cX3_messagesOfAccount 145 = .ok (.goto (-92), 3) := by decide +kernel
theorem dX3_messagesOfAccount_148 : decode cX3_messagesOfAccount 148 = .ok (.aload_n 0, 1) := by decide +kernel
theorem dX3_messagesOfAccount_149 : decode cX3_messagesOfAccount 149 = .ok (.getfield 48, 3) := by decide +kernel
theorem dX3_messagesOfAccount_152 : decode cX3_messagesOfAccount 152 = .ok (.iconst 0, 1) := by decide +kernel
theorem dX3_messagesOfAccount_153 : decode cX3_messagesOfAccount 153 = .ok (.invokevirtual 100, 3) := by decide +kernel
theorem dX3_messagesOfAccount_156 : decode cX3_messagesOfAccount 156 = .ok (.ireturn, 1) := by decide +kernel
theorem dX4_init_0 : decode cX4_init 0 = .ok (.aload_n 0, 1) := by decide +kernel
theorem dX4_init_1 : decode cX4_init 1 = .ok (.invokespecial 3, 3) := by decide +kernel
theorem dX4_init_4 : decode cX4_init 4 = .ok (.aload_n 0, 1) := by decide +kernel
theorem dX4_init_5 : decode cX4_init 5 = .ok (.aload_n 1, 1) := by decide +kernel
theorem dX4_init_6 : decode cX4_init 6 = .ok (.putfield 9, 3) := by decide +kernel
theorem dX4_init_9 : decode cX4_init 9 = .ok (.return_, 1) := by decide +kernel
theorem dX4_findFault_0 : decode cX4_findFault 0 = .ok (.aload_n 0, 1) := by decide +kernel
theorem dX4_findFault_1 : decode cX4_findFault 1 = .ok (.iconst 0, 1) := by decide +kernel
theorem dX4_findFault_2 : decode cX4_findFault 2 = .ok (.putfield 15, 3) := by decide +kernel
theorem dX4_findFault_5 : decode cX4_findFault 5 = .ok (.iconst 0, 1) := by decide +kernel
theorem dX4_findFault_6 : decode cX4_findFault 6 = .ok (.istore_n 1, 1) := by decide +kernel
theorem dX4_findFault_7 : decode cX4_findFault 7 = .ok (.iload_n 1, 1) := by decide +kernel
theorem dX4_findFault_8 : decode cX4_findFault 8 = .ok (.bipush 80, 2) := by decide +kernel
theorem dX4_findFault_10 : decode cX4_findFault 10 = .ok (.if_icmp .ge 38, 3) := by decide +kernel
theorem dX4_findFault_13 : decode cX4_findFault 13 = .ok (.aload_n 0, 1) := by decide +kernel
theorem dX4_findFault_14 : decode cX4_findFault 14 = .ok (.invokevirtual 19, 3) := by decide +kernel
theorem dX4_findFault_17 : decode cX4_findFault 17 = .ok (.ifCond .ne 8, 3) := by decide +kernel
theorem dX4_findFault_20 : decode cX4_findFault 20 = .ok (.aload_n 0, 1) := by decide +kernel
theorem dX4_findFault_21 : decode cX4_findFault 21 = .ok (.getfield 15, 3) := by decide +kernel
theorem dX4_findFault_24 : decode cX4_findFault 24 = .ok (.ireturn, 1) := by decide +kernel
theorem dX4_findFault_25 : decode cX4_findFault 25 = .ok (.aload_n 0, 1) := by decide +kernel
theorem dX4_findFault_26 : decode cX4_findFault 26 = .ok (.getfield 15, 3) := by decide +kernel
theorem dX4_findFault_29 : decode cX4_findFault 29 = .ok (.aload_n 0, 1) := by decide +kernel
theorem dX4_findFault_30 : decode cX4_findFault 30 = .ok (.getfield 9, 3) := by decide +kernel
theorem dX4_findFault_33 : decode cX4_findFault 33 = .ok (.getfield 23, 3) := by decide +kernel
theorem dX4_findFault_36 : decode cX4_findFault 36 = .ok (.if_icmp .lt 6, 3) := by decide +kernel
theorem dX4_findFault_39 : decode cX4_findFault 39 = .ok (.bipush (-6), 2) := by decide +kernel
theorem dX4_findFault_41 : decode cX4_findFault 41 = .ok (.ireturn, 1) := by decide +kernel
theorem dX4_findFault_42 : decode cX4_findFault 42 = .ok (.iinc 1 1, 3) := by decide +kernel
theorem dX4_findFault_45 : decode cX4_findFault 45 = .ok (.goto (-38), 3) := by decide +kernel
theorem dX4_findFault_48 : decode cX4_findFault 48 = .ok (.bipush (-6), 2) := by decide +kernel
theorem dX4_findFault_50 : decode cX4_findFault 50 = .ok (.ireturn, 1) := by decide +kernel
theorem dX4_takeNext_0 : decode cX4_takeNext 0 = .ok (.aload_n 0, 1) := by decide +kernel
theorem dX4_takeNext_1 : decode cX4_takeNext 1 = .ok (.getfield 15, 3) := by decide +kernel
theorem dX4_takeNext_4 : decode cX4_takeNext 4 = .ok (.ifCond .eq 12, 3) := by decide +kernel
theorem dX4_takeNext_7 : decode cX4_takeNext 7 = .ok (.aload_n 0, 1) := by decide +kernel
theorem dX4_takeNext_8 : decode cX4_takeNext 8 = .ok (.bipush 59, 2) := by decide +kernel
theorem dX4_takeNext_10 : decode cX4_takeNext 10 = .ok (.invokevirtual 28, 3) := by decide +kernel
theorem dX4_takeNext_13 : decode cX4_takeNext 13 = .ok (.ifCond .eq 35, 3) := by decide +kernel
theorem dX4_takeNext_16 : decode cX4_takeNext 16 = .ok (.aload_n 0, 1) := by decide +kernel
theorem dX4_takeNext_17 : decode cX4_takeNext 17 = .ok (.invokevirtual 32, 3) := by decide +kernel
theorem dX4_takeNext_20 : decode cX4_takeNext 20 = .ok (.ifCond .eq 28, 3) := by decide +kernel
theorem dX4_takeNext_23 : decode cX4_takeNext 23 = .ok (.aload_n 0, 1) := by decide +kernel
theorem dX4_takeNext_24 : decode cX4_takeNext 24 = .ok (.invokevirtual 35, 3) := by decide +kernel
theorem dX4_takeNext_27 : decode cX4_takeNext 27 = .ok (.ifCond .eq 21, 3) := by decide +kernel
theorem dX4_takeNext_30 : decode cX4_takeNext 30 = .ok (.aload_n 0, 1) := by decide +kernel
theorem dX4_takeNext_31 : decode cX4_takeNext 31 = .ok (.invokevirtual 38, 3) := by decide +kernel
theorem dX4_takeNext_34 : decode cX4_takeNext 34 = .ok (.ifCond .eq 14, 3) := by decide +kernel
theorem dX4_takeNext_37 : decode cX4_takeNext 37 = .ok (.aload_n 0, 1) := by decide +kernel
theorem dX4_takeNext_38 : decode cX4_takeNext 38 = .ok (.invokevirtual 41, 3) := by decide +kernel
theorem dX4_takeNext_41 : decode cX4_takeNext 41 = .ok (.ifCond .eq 7, 3) := by decide +kernel
theorem dX4_takeNext_44 : decode cX4_takeNext 44 = .ok (.iconst 1, 1) := by decide +kernel
theorem dX4_takeNext_45 : decode cX4_takeNext 45 = .ok (.goto 4, 3) := by decide +kernel
theorem dX4_takeNext_48 : decode cX4_takeNext 48 = .ok (.iconst 0, 1) := by decide +kernel
theorem dX4_takeNext_49 : decode cX4_takeNext 49 = .ok (.ireturn, 1) := by decide +kernel
theorem dX4_takeKind_0 : decode cX4_takeKind 0 = .ok (.aload_n 0, 1) := by decide +kernel
theorem dX4_takeKind_1 : decode cX4_takeKind 1 = .ok (.aload_n 0, 1) := by decide +kernel
theorem dX4_takeKind_2 : decode cX4_takeKind 2 = .ok (.getfield 9, 3) := by decide +kernel
theorem dX4_takeKind_5 : decode cX4_takeKind 5 = .ok (.aload_n 0, 1) := by decide +kernel
theorem dX4_takeKind_6 : decode cX4_takeKind 6 = .ok (.getfield 15, 3) := by decide +kernel
theorem dX4_takeKind_9 : decode cX4_takeKind 9 = .ok (.invokevirtual 44, 3) := by decide +kernel
theorem dX4_takeKind_12 : decode cX4_takeKind 12 = .ok (.invokestatic 48, 3) := by decide +kernel
theorem dX4_takeKind_15 : decode cX4_takeKind 15 = .ok (.putfield 51, 3) := by decide +kernel
theorem dX4_takeKind_18 : decode cX4_takeKind 18 = .ok (.aload_n 0, 1) := by decide +kernel
theorem dX4_takeKind_19 : decode cX4_takeKind 19 = .ok (.getfield 51, 3) := by decide +kernel
theorem dX4_takeKind_22 : decode cX4_takeKind 22 = .ok (.iconst (-1), 1) := by decide +kernel
theorem dX4_takeKind_23 : decode cX4_takeKind 23 = .ok (.if_icmp .ne 5, 3) := by decide +kernel
theorem dX4_takeKind_26 : decode cX4_takeKind 26 = .ok (.iconst 0, 1) := by decide +kernel
theorem dX4_takeKind_27 : decode cX4_takeKind 27 = .ok (.ireturn, 1) := by decide +kernel
theorem dX4_takeKind_28 : decode cX4_takeKind 28 = .ok (.aload_n 0, 1) := by decide +kernel
theorem dX4_takeKind_29 : decode cX4_takeKind 29 = .ok (.dup, 1) := by decide +kernel
theorem dX4_takeKind_30 : decode cX4_takeKind 30 = .ok (.getfield 15, 3) := by decide +kernel
theorem dX4_takeKind_33 : decode cX4_takeKind 33 = .ok (.iconst 1, 1) := by decide +kernel
theorem dX4_takeKind_34 : decode cX4_takeKind 34 = .ok (.iadd, 1) := by decide +kernel
theorem dX4_takeKind_35 : decode cX4_takeKind 35 = .ok (.putfield 15, 3) := by decide +kernel
theorem dX4_takeKind_38 : decode cX4_takeKind 38 = .ok (.iconst 1, 1) := by decide +kernel
theorem dX4_takeKind_39 : decode cX4_takeKind 39 = .ok (.ireturn, 1) := by decide +kernel
theorem dX4_takeReader_0 : decode cX4_takeReader 0 = .ok (.aload_n 0, 1) := by decide +kernel
theorem dX4_takeReader_1 : decode cX4_takeReader 1 = .ok (.iconst 0, 1) := by decide +kernel
theorem dX4_takeReader_2 : decode cX4_takeReader 2 = .ok (.putfield 54, 3) := by decide +kernel
theorem dX4_takeReader_5 : decode cX4_takeReader 5 = .ok (.aload_n 0, 1) := by decide +kernel
theorem dX4_takeReader_6 : decode cX4_takeReader 6 = .ok (.getfield 51, 3) := by decide +kernel
theorem dX4_takeReader_9 : decode cX4_takeReader 9 = .ok (.iconst 3, 1) := by decide +kernel
theorem dX4_takeReader_10 : decode cX4_takeReader 10 = .ok (.if_icmp .ne 5, 3) := by decide +kernel
theorem dX4_takeReader_13 : decode cX4_takeReader 13 = .ok (.iconst 1, 1) := by decide +kernel
theorem dX4_takeReader_14 : decode cX4_takeReader 14 = .ok (.ireturn, 1) := by decide +kernel
theorem dX4_takeReader_15 : decode cX4_takeReader 15 = .ok (.aload_n 0, 1) := by decide +kernel
theorem dX4_takeReader_16 : decode cX4_takeReader 16 = .ok (.invokevirtual 57, 3) := by decide +kernel
theorem dX4_takeReader_19 : decode cX4_takeReader 19 = .ok (.istore_n 1, 1) := by decide +kernel
theorem dX4_takeReader_20 : decode cX4_takeReader 20 = .ok (.aload_n 0, 1) := by decide +kernel
theorem dX4_takeReader_21 : decode cX4_takeReader 21 = .ok (.aload_n 0, 1) := by decide +kernel
theorem dX4_takeReader_22 : decode cX4_takeReader 22 = .ok (.getfield 60, 3) := by decide +kernel
theorem dX4_takeReader_25 : decode cX4_takeReader 25 = .ok (.putfield 54, 3) := by decide +kernel
theorem dX4_takeReader_28 : decode cX4_takeReader 28 = .ok (.iload_n 1, 1) := by decide +kernel
theorem dX4_takeReader_29 : decode cX4_takeReader 29 = .ok (.ifCond .eq 16, 3) := by decide +kernel
theorem dX4_takeReader_32 : decode cX4_takeReader 32 = .ok (.aload_n 0, 1) := by decide +kernel
theorem dX4_takeReader_33 : decode cX4_takeReader 33 = .ok (.bipush 58, 2) := by decide +kernel
theorem dX4_takeReader_35 : decode cX4_takeReader 35 = .ok (.invokevirtual 28, 3) := by decide +kernel
theorem dX4_takeReader_38 : decode cX4_takeReader 38 = .ok (.ifCond .eq 7, 3) := by decide +kernel
theorem dX4_takeReader_41 : decode cX4_takeReader 41 = .ok (.iconst 1, 1) := by decide +kernel
theorem dX4_takeReader_42 : decode cX4_takeReader 42 = .ok (.goto 4, 3) := by decide +kernel
theorem dX4_takeReader_45 : decode cX4_takeReader 45 = .ok (.iconst 0, 1) := by decide +kernel
theorem dX4_takeReader_46 : decode cX4_takeReader 46 = .ok (.ireturn, 1) := by decide +kernel
theorem dX4_takeNote_0 : decode cX4_takeNote 0 = .ok (.aload_n 0, 1) := by decide +kernel
theorem dX4_takeNote_1 : decode cX4_takeNote 1 = .ok (.invokevirtual 57, 3) := by decide +kernel
theorem dX4_takeNote_4 : decode cX4_takeNote 4 = .ok (.istore_n 1, 1) := by decide +kernel
theorem dX4_takeNote_5 : decode cX4_takeNote 5 = .ok (.aload_n 0, 1) := by decide +kernel
theorem dX4_takeNote_6 : decode cX4_takeNote 6 = .ok (.aload_n 0, 1) := by decide +kernel
theorem dX4_takeNote_7 : decode cX4_takeNote 7 = .ok (.getfield 60, 3) := by decide +kernel
theorem dX4_takeNote_10 : decode cX4_takeNote 10 = .ok (.putfield 63, 3) := by decide +kernel
theorem dX4_takeNote_13 : decode cX4_takeNote 13 = .ok (.iload_n 1, 1) := by decide +kernel
theorem dX4_takeNote_14 : decode cX4_takeNote 14 = .ok (.ireturn, 1) := by decide +kernel
theorem dX4_takeValue_0 : decode cX4_takeValue 0 = .ok (.aload_n 0, 1) := by decide +kernel
theorem dX4_takeValue_1 : decode cX4_takeValue 1 = .ok (.iconst 0, 1) := by decide +kernel
theorem dX4_takeValue_2 : decode cX4_takeValue 2 = .ok (.putfield 66, 3) := by decide +kernel
theorem dX4_takeValue_5 : decode cX4_takeValue 5 = .ok (.aload_n 0, 1) := by decide +kernel
theorem dX4_takeValue_6 : decode cX4_takeValue 6 = .ok (.getfield 51, 3) := by decide +kernel
theorem dX4_takeValue_9 : decode cX4_takeValue 9 = .ok (.iconst 1, 1) := by decide +kernel
theorem dX4_takeValue_10 : decode cX4_takeValue 10 = .ok (.if_icmp .eq 5, 3) := by decide +kernel
theorem dX4_takeValue_13 : decode cX4_takeValue 13 = .ok (.iconst 1, 1) := by decide +kernel
theorem dX4_takeValue_14 : decode cX4_takeValue 14 = .ok (.ireturn, 1) := by decide +kernel
theorem dX4_takeValue_15 : decode cX4_takeValue 15 = .ok (.aload_n 0, 1) := by decide +kernel
theorem dX4_takeValue_16 : decode cX4_takeValue 16 = .ok (.bipush 61, 2) := by decide +kernel
theorem dX4_takeValue_18 : decode cX4_takeValue 18 = .ok (.invokevirtual 28, 3) := by decide +kernel
theorem dX4_takeValue_21 : decode cX4_takeValue 21 = .ok (.ifCond .eq 14, 3) := by decide +kernel
theorem dX4_takeValue_24 : decode cX4_takeValue 24 = .ok (.aload_n 0, 1) := by decide +kernel
theorem dX4_takeValue_25 : decode cX4_takeValue 25 = .ok (.invokevirtual 57, 3) := by decide +kernel
theorem dX4_takeValue_28 : decode cX4_takeValue 28 = .ok (.ifCond .eq 7, 3) := by decide +kernel
theorem dX4_takeValue_31 : decode cX4_takeValue 31 = .ok (.iconst 1, 1) := by decide +kernel
theorem dX4_takeValue_32 : decode cX4_takeValue 32 = .ok (.goto 4, 3) := by decide +kernel
theorem dX4_takeValue_35 : decode cX4_takeValue 35 = .ok (.iconst 0, 1) := by decide +kernel
theorem dX4_takeValue_36 : decode cX4_takeValue 36 = .ok (.istore_n 1, 1) := by decide +kernel
theorem dX4_takeValue_37 : decode cX4_takeValue 37 = .ok (.aload_n 0, 1) := by decide +kernel
theorem dX4_takeValue_38 : decode cX4_takeValue 38 = .ok (.aload_n 0, 1) := by decide +kernel
theorem dX4_takeValue_39 : decode cX4_takeValue 39 = .ok (.getfield 60, 3) := by decide +kernel
theorem dX4_takeValue_42 : decode cX4_takeValue 42 = .ok (.putfield 66, 3) := by decide +kernel
theorem dX4_takeValue_45 : decode cX4_takeValue 45 = .ok (.iload_n 1, 1) := by decide +kernel
theorem dX4_takeValue_46 : decode cX4_takeValue 46 = .ok (.ireturn, 1) := by decide +kernel
theorem dX4_takeNumber_0 : decode cX4_takeNumber 0 = .ok (.aload_n 0, 1) := by decide +kernel
theorem dX4_takeNumber_1 : decode cX4_takeNumber 1 = .ok (.getfield 15, 3) := by decide +kernel
theorem dX4_takeNumber_4 : decode cX4_takeNumber 4 = .ok (.istore_n 1, 1) := by decide +kernel
theorem dX4_takeNumber_5 : decode cX4_takeNumber 5 = .ok (.aload_n 0, 1) := by decide +kernel
theorem dX4_takeNumber_6 : decode cX4_takeNumber 6 = .ok (.getfield 9, 3) := by decide +kernel
theorem dX4_takeNumber_9 : decode cX4_takeNumber 9 = .ok (.aload_n 0, 1) := by decide +kernel
theorem dX4_takeNumber_10 : decode cX4_takeNumber 10 = .ok (.getfield 15, 3) := by decide +kernel
theorem dX4_takeNumber_13 : decode cX4_takeNumber 13 = .ok (.invokevirtual 44, 3) := by decide +kernel
theorem dX4_takeNumber_16 : decode cX4_takeNumber 16 = .ok (.bipush 48, 2) := by decide +kernel
theorem dX4_takeNumber_18 : decode cX4_takeNumber 18 = .ok (.if_icmp .ne 7, 3) := by decide +kernel
theorem dX4_takeNumber_21 : decode cX4_takeNumber 21 = .ok (.iconst 1, 1) := by decide +kernel
theorem dX4_takeNumber_22 : decode cX4_takeNumber 22 = .ok (.goto 4, 3) := by decide +kernel
theorem dX4_takeNumber_25 : decode cX4_takeNumber 25 = .ok (.iconst 4, 1) := by decide +kernel
theorem dX4_takeNumber_26 : decode cX4_takeNumber 26 = .ok (.istore_n 2, 1) := by decide +kernel
theorem dX4_takeNumber_27 : decode cX4_takeNumber 27 = .ok (.aload_n 0, 1) := by decide +kernel
theorem dX4_takeNumber_28 : decode cX4_takeNumber 28 = .ok (.iconst 0, 1) := by decide +kernel
theorem dX4_takeNumber_29 : decode cX4_takeNumber 29 = .ok (.putfield 60, 3) := by decide +kernel
theorem dX4_takeNumber_32 : decode cX4_takeNumber 32 = .ok (.iconst 0, 1) := by decide +kernel
theorem dX4_takeNumber_33 : decode cX4_takeNumber 33 = .ok (.istore_n 3, 1) := by decide +kernel
theorem dX4_takeNumber_34 : decode cX4_takeNumber 34 = .ok (.iload_n 3, 1) := by decide +kernel
theorem dX4_takeNumber_35 : decode cX4_takeNumber 35 = .ok (.iload_n 2, 1) := by decide +kernel
theorem dX4_takeNumber_36 : decode cX4_takeNumber 36 = .ok (.if_icmp .ge 62, 3) := by decide +kernel
theorem dX4_takeNumber_39 : decode cX4_takeNumber 39 = .ok (.aload_n 0, 1) := by decide +kernel
theorem dX4_takeNumber_40 : decode cX4_takeNumber 40 = .ok (.getfield 9, 3) := by decide +kernel
theorem dX4_takeNumber_43 : decode cX4_takeNumber 43 = .ok (.aload_n 0, 1) := by decide +kernel
theorem dX4_takeNumber_44 : decode cX4_takeNumber 44 = .ok (.getfield 15, 3) := by decide +kernel
theorem dX4_takeNumber_47 : decode cX4_takeNumber 47 = .ok (.invokevirtual 44, 3) := by decide +kernel
theorem dX4_takeNumber_50 : decode cX4_takeNumber 50 = .ok (.invokestatic 69, 3) := by decide +kernel
theorem dX4_takeNumber_53 : decode cX4_takeNumber 53 = .ok (.ifCond .eq 45, 3) := by decide +kernel
theorem dX4_takeNumber_56 : decode cX4_takeNumber 56 = .ok (.aload_n 0, 1) := by decide +kernel
theorem dX4_takeNumber_57 : decode cX4_takeNumber 57 = .ok (.aload_n 0, 1) := by decide +kernel
theorem dX4_takeNumber_58 : decode cX4_takeNumber 58 = .ok (.getfield 60, 3) := by decide +kernel
theorem dX4_takeNumber_61 : decode cX4_takeNumber 61 = .ok (.bipush 10, 2) := by decide +kernel
theorem dX4_takeNumber_63 : decode cX4_takeNumber 63 = .ok (.imul, 1) := by decide +kernel
theorem dX4_takeNumber_64 : decode cX4_takeNumber 64 = .ok (.aload_n 0, 1) := by decide +kernel
theorem dX4_takeNumber_65 : decode cX4_takeNumber 65 = .ok (.getfield 9, 3) := by decide +kernel
theorem dX4_takeNumber_68 : decode cX4_takeNumber 68 = .ok (.aload_n 0, 1) := by decide +kernel
theorem dX4_takeNumber_69 : decode cX4_takeNumber 69 = .ok (.getfield 15, 3) := by decide +kernel
theorem dX4_takeNumber_72 : decode cX4_takeNumber 72 = .ok (.invokevirtual 44, 3) := by decide +kernel
theorem dX4_takeNumber_75 : decode cX4_takeNumber 75 = .ok (.iadd, 1) := by decide +kernel
theorem dX4_takeNumber_76 : decode cX4_takeNumber 76 = .ok (.bipush 48, 2) := by decide +kernel
theorem dX4_takeNumber_78 : decode cX4_takeNumber 78 = .ok (.isub, 1) := by decide +kernel
theorem dX4_takeNumber_79 : decode cX4_takeNumber 79 = .ok (.putfield 60, 3) := by decide +kernel
theorem dX4_takeNumber_82 : decode cX4_takeNumber 82 = .ok (.aload_n 0, 1) := by decide +kernel
theorem dX4_takeNumber_83 : decode cX4_takeNumber 83 = .ok (.dup, 1) := by decide +kernel
theorem dX4_takeNumber_84 : decode cX4_takeNumber 84 = .ok (.getfield 15, 3) := by decide +kernel
theorem dX4_takeNumber_87 : decode cX4_takeNumber 87 = .ok (.iconst 1, 1) := by decide +kernel
theorem dX4_takeNumber_88 : decode cX4_takeNumber 88 = .ok (.iadd, 1) := by decide +kernel
theorem dX4_takeNumber_89 : decode cX4_takeNumber 89 = .ok (.putfield 15, 3) := by decide +kernel
theorem dX4_takeNumber_92 : decode cX4_takeNumber 92 = .ok (.iinc 3 1, 3) := by decide +kernel
theorem dX4_takeNumber_95 : decode cX4_takeNumber 95 = .ok (.goto (-61), 3) := by decide +kernel
theorem dX4_takeNumber_98 : decode cX4_takeNumber 98 = .ok (.aload_n 0, 1) := by decide +kernel
theorem dX4_takeNumber_99 : decode cX4_takeNumber 99 = .ok (.getfield 15, 3) := by decide +kernel
theorem dX4_takeNumber_102 : decode cX4_takeNumber 102 = .ok (.iload_n 1, 1) := by decide +kernel
theorem dX4_takeNumber_103 : decode cX4_takeNumber 103 = .ok (.if_icmp .le 7, 3) := by decide +kernel
theorem dX4_takeNumber_106 : decode cX4_takeNumber 106 = .ok (.iconst 1, 1) := by decide +kernel
theorem dX4_takeNumber_107 : decode cX4_takeNumber 107 = .ok (.goto 4, 3) := by decide +kernel
theorem dX4_takeNumber_110 : decode cX4_takeNumber 110 = .ok (.iconst 0, 1) := by decide +kernel
theorem dX4_takeNumber_111 : decode cX4_takeNumber 111 = .ok (.ireturn, 1) := by decide +kernel
theorem dX4_take_0 : decode cX4_take 0 = .ok (.aload_n 0, 1) := by decide +kernel
theorem dX4_take_1 : decode cX4_take 1 = .ok (.getfield 9, 3) := by decide +kernel
theorem dX4_take_4 : decode cX4_take 4 = .ok (.aload_n 0, 1) := by decide +kernel
theorem dX4_take_5 : decode cX4_take 5 = .ok (.getfield 15, 3) := by decide +kernel
theorem dX4_take_8 : decode cX4_take 8 = .ok (.invokevirtual 44, 3) := by decide +kernel
theorem dX4_take_11 : decode cX4_take 11 = .ok (.iload_n 1, 1) := by decide +kernel
theorem dX4_take_12 : decode cX4_take 12 = .ok (.if_icmp .eq 5, 3) := by decide +kernel
theorem dX4_take_15 : decode cX4_take 15 = .ok (.iconst 0, 1) := by decide +kernel
theorem dX4_take_16 : decode cX4_take 16 = .ok (.ireturn, 1) := by decide +kernel
theorem dX4_take_17 : decode cX4_take 17 = .ok (.aload_n 0, 1) := by decide +kernel
theorem dX4_take_18 : decode cX4_take 18 = .ok (.dup, 1) := by decide +kernel
theorem dX4_take_19 : decode cX4_take 19 = .ok (.getfield 15, 3) := by decide +kernel
theorem dX4_take_22 : decode cX4_take 22 = .ok (.iconst 1, 1) := by decide +kernel
theorem dX4_take_23 : decode cX4_take 23 = .ok (.iadd, 1) := by decide +kernel
theorem dX4_take_24 : decode cX4_take 24 = .ok (.putfield 15, 3) := by decide +kernel
theorem dX4_take_27 : decode cX4_take 27 = .ok (.iconst 1, 1) := by decide +kernel
theorem dX4_take_28 : decode cX4_take 28 = .ok (.ireturn, 1) := by decide +kernel
theorem dX4_isDigit_0 : decode cX4_isDigit 0 = .ok (.iload_n 0, 1) := by decide +kernel
theorem dX4_isDigit_1 : decode cX4_isDigit 1 = .ok (.bipush 48, 2) := by decide +kernel
theorem dX4_isDigit_3 : decode cX4_isDigit 3 = .ok (.if_icmp .lt 13, 3) := by decide +kernel
theorem dX4_isDigit_6 : decode cX4_isDigit 6 = .ok (.iload_n 0, 1) := by decide +kernel
theorem dX4_isDigit_7 : decode cX4_isDigit 7 = .ok (.bipush 57, 2) := by decide +kernel
theorem dX4_isDigit_9 : decode cX4_isDigit 9 = .ok (.if_icmp .gt 7, 3) := by decide +kernel
theorem dX4_isDigit_12 : decode cX4_isDigit 12 = .ok (.iconst 1, 1) := by decide +kernel
theorem dX4_isDigit_13 : decode cX4_isDigit 13 = .ok (.goto 4, 3) := by decide +kernel
theorem dX4_isDigit_16 : decode cX4_isDigit 16 = .ok (.iconst 0, 1) := by decide +kernel
theorem dX4_isDigit_17 : decode cX4_isDigit 17 = .ok (.ireturn, 1) := by decide +kernel
theorem dX4_kindOf_0 : decode cX4_kindOf 0 = .ok (.iload_n 0, 1) := by decide +kernel
theorem dX4_kindOf_1 : decode cX4_kindOf 1 = .ok (.lookupswitch 51 #[(98, 47), (99, 49), (114, 43), (119, 45)], 43) := by decide +kernel
theorem dX4_kindOf_44 : decode cX4_kindOf 44 = .ok (.iconst 0, 1) := by decide +kernel
theorem dX4_kindOf_45 : decode cX4_kindOf 45 = .ok (.ireturn, 1) := by decide +kernel
theorem dX4_kindOf_46 : decode cX4_kindOf 46 = .ok (.iconst 1, 1) := by decide +kernel
theorem dX4_kindOf_47 : decode cX4_kindOf 47 = .ok (.ireturn, 1) := by decide +kernel
theorem dX4_kindOf_48 : decode cX4_kindOf 48 = .ok (.iconst 2, 1) := by decide +kernel
theorem dX4_kindOf_49 : decode cX4_kindOf 49 = .ok (.ireturn, 1) := by decide +kernel
theorem dX4_kindOf_50 : decode cX4_kindOf 50 = .ok (.iconst 3, 1) := by decide +kernel
theorem dX4_kindOf_51 : decode cX4_kindOf 51 = .ok (.ireturn, 1) := by decide +kernel
theorem dX4_kindOf_52 : decode cX4_kindOf 52 = .ok (.iconst (-1), 1) := by decide +kernel
theorem dX4_kindOf_53 : decode cX4_kindOf 53 = .ok (.ireturn, 1) := by decide +kernel
theorem dX5_init_0 : decode cX5_init 0 = .ok (.aload_n 0, 1) := by decide +kernel
theorem dX5_init_1 : decode cX5_init 1 = .ok (.invokespecial 3, 3) := by decide +kernel
theorem dX5_init_4 : decode cX5_init 4 = .ok (.aload_n 0, 1) := by decide +kernel
theorem dX5_init_5 : decode cX5_init 5 = .ok (.new 9, 3) := by decide +kernel
theorem dX5_init_8 : decode cX5_init 8 = .ok (.dup, 1) := by decide +kernel
theorem dX5_init_9 : decode cX5_init 9 = .ok (.bipush 80, 2) := by decide +kernel
theorem dX5_init_11 : decode cX5_init 11 = .ok (.invokespecial 11, 3) := by decide +kernel
theorem dX5_init_14 : decode cX5_init 14 = .ok (.putfield 14, 3) := by decide +kernel
theorem dX5_init_17 : decode cX5_init 17 = .ok (.return_, 1) := by decide +kernel
theorem dX5_codeAt_0 : decode cX5_codeAt 0 = .ok (.iload_n 1, 1) := by decide +kernel
theorem dX5_codeAt_1 : decode cX5_codeAt 1 = .ok (.aload_n 0, 1) := by decide +kernel
theorem dX5_codeAt_2 : decode cX5_codeAt 2 = .ok (.getfield 20, 3) := by decide +kernel
theorem dX5_codeAt_5 : decode cX5_codeAt 5 = .ok (.if_icmp .ge 14, 3) := by decide +kernel
theorem dX5_codeAt_8 : decode cX5_codeAt 8 = .ok (.aload_n 0, 1) := by decide +kernel
theorem dX5_codeAt_9 : decode cX5_codeAt 9 = .ok (.getfield 14, 3) := by decide +kernel
theorem dX5_codeAt_12 : decode cX5_codeAt 12 = .ok (.iload_n 1, 1) := by decide +kernel
theorem dX5_codeAt_13 : decode cX5_codeAt 13 = .ok (.invokevirtual 24, 3) := by decide +kernel
theorem dX5_codeAt_16 : decode cX5_codeAt 16 = .ok (.goto 4, 3) := by decide +kernel
theorem dX5_codeAt_19 : decode cX5_codeAt 19 = .ok (.iconst 0, 1) := by decide +kernel
theorem dX5_codeAt_20 : decode cX5_codeAt 20 = .ok (.ireturn, 1) := by decide +kernel
theorem dX5_append_0 : decode cX5_append 0 = .ok (.aload_n 0, 1) := by decide +kernel
theorem dX5_append_1 : decode cX5_append 1 = .ok (.getfield 14, 3) := by decide +kernel
theorem dX5_append_4 : decode cX5_append 4 = .ok (.aload_n 0, 1) := by decide +kernel
theorem dX5_append_5 : decode cX5_append 5 = .ok (.getfield 20, 3) := by decide +kernel
theorem dX5_append_8 : decode cX5_append 8 = .ok (.iload_n 1, 1) := by decide +kernel
theorem dX5_append_9 : decode cX5_append 9 = .ok (.invokevirtual 28, 3) := by decide +kernel
theorem dX5_append_12 : decode cX5_append 12 = .ok (.aload_n 0, 1) := by decide +kernel
theorem dX5_append_13 : decode cX5_append 13 = .ok (.dup, 1) := by decide +kernel
theorem dX5_append_14 : decode cX5_append 14 = .ok (.getfield 20, 3) := by decide +kernel
theorem dX5_append_17 : decode cX5_append 17 = .ok (.iconst 1, 1) := by decide +kernel
theorem dX5_append_18 : decode cX5_append 18 = .ok (.iadd, 1) := by decide +kernel
theorem dX5_append_19 : decode cX5_append 19 = .ok (.putfield 20, 3) := by decide +kernel
theorem dX5_append_22 : decode cX5_append 22 = .ok (.return_, 1) := by decide +kernel
theorem dX6_init_0 : decode cX6_init 0 = .ok (.aload_n 0, 1) := by decide +kernel
theorem dX6_init_1 : decode cX6_init 1 = .ok (.invokespecial 1, 3) := by decide +kernel
theorem dX6_init_4 : decode cX6_init 4 = .ok (.aload_n 0, 1) := by decide +kernel
theorem dX6_init_5 : decode cX6_init 5 = .ok (.iload_n 1, 1) := by decide +kernel
theorem dX6_init_6 : decode cX6_init 6 = .ok (.ifCond .le 7, 3) := by decide +kernel
theorem dX6_init_9 : decode cX6_init 9 = .ok (.iload_n 1, 1) := by decide +kernel
theorem dX6_init_10 : decode cX6_init 10 = .ok (.goto 4, 3) := by decide +kernel
theorem dX6_init_13 : decode cX6_init 13 = .ok (.iconst 0, 1) := by decide +kernel
theorem dX6_init_14 : decode cX6_init 14 = .ok (.newarray .int, 2) := by decide +kernel
theorem dX6_init_16 : decode cX6_init 16 = .ok (.putfield 7, 3) := by decide +kernel
theorem dX6_init_19 : decode cX6_init 19 = .ok (.return_, 1) := by decide +kernel
theorem dX6_at_0 : decode cX6_at 0 = .ok (.iload_n 1, 1) := by decide +kernel
theorem dX6_at_1 : decode cX6_at 1 = .ok (.ifCond .lt 21, 3) := by decide +kernel
theorem dX6_at_4 : decode cX6_at 4 = .ok (.iload_n 1, 1) := by decide +kernel
theorem dX6_at_5 : decode cX6_at 5 = .ok (.aload_n 0, 1) := by decide +kernel
theorem dX6_at_6 : decode cX6_at 6 = .ok (.getfield 7, 3) := by decide +kernel
theorem dX6_at_9 : decode cX6_at 9 = .ok (.arraylength, 1) := by decide +kernel
theorem dX6_at_10 : decode cX6_at 10 = .ok (.if_icmp .ge 12, 3) := by decide +kernel
theorem dX6_at_13 : decode cX6_at 13 = .ok (.aload_n 0, 1) := by decide +kernel
theorem dX6_at_14 : decode cX6_at 14 = .ok (.getfield 7, 3) := by decide +kernel
theorem dX6_at_17 : decode cX6_at 17 = .ok (.iload_n 1, 1) := by decide +kernel
theorem dX6_at_18 : decode cX6_at 18 = .ok (.iaload, 1) := by decide +kernel
theorem dX6_at_19 : decode cX6_at 19 = .ok (.goto 4, 3) := by decide +kernel
theorem dX6_at_22 : decode cX6_at 22 = .ok (.iconst 0, 1) := by decide +kernel
theorem dX6_at_23 : decode cX6_at 23 = .ok (.ireturn, 1) := by decide +kernel
theorem dX6_write_0 : decode cX6_write 0 = .ok (.iload_n 1, 1) := by decide +kernel
theorem dX6_write_1 : decode cX6_write 1 = .ok (.ifCond .lt 19, 3) := by decide +kernel
theorem dX6_write_4 : decode cX6_write 4 = .ok (.iload_n 1, 1) := by decide +kernel
theorem dX6_write_5 : decode cX6_write 5 = .ok (.aload_n 0, 1) := by decide +kernel
theorem dX6_write_6 : decode cX6_write 6 = .ok (.getfield 7, 3) := by decide +kernel
theorem dX6_write_9 : decode cX6_write 9 = .ok (.arraylength, 1) := by decide +kernel
theorem dX6_write_10 : decode cX6_write 10 = .ok (.if_icmp .ge 10, 3) := by decide +kernel
theorem dX6_write_13 : decode cX6_write 13 = .ok (.aload_n 0, 1) := by decide +kernel
theorem dX6_write_14 : decode cX6_write 14 = .ok (.getfield 7, 3) := by decide +kernel
theorem dX6_write_17 : decode cX6_write 17 = .ok (.iload_n 1, 1) := by decide +kernel
theorem dX6_write_18 : decode cX6_write 18 = .ok (.iload_n 2, 1) := by decide +kernel
theorem dX6_write_19 : decode cX6_write 19 = .ok (.iastore, 1) := by decide +kernel
theorem dX6_write_20 : decode cX6_write 20 = .ok (.return_, 1) := by decide +kernel
theorem dX6_add_0 : decode cX6_add 0 = .ok (.iload_n 1, 1) := by decide +kernel
theorem dX6_add_1 : decode cX6_add 1 = .ok (.ifCond .lt 22, 3) := by decide +kernel
theorem dX6_add_4 : decode cX6_add 4 = .ok (.iload_n 1, 1) := by decide +kernel
theorem dX6_add_5 : decode cX6_add 5 = .ok (.aload_n 0, 1) := by decide +kernel
theorem dX6_add_6 : decode cX6_add 6 = .ok (.getfield 7, 3) := by decide +kernel
theorem dX6_add_9 : decode cX6_add 9 = .ok (.arraylength, 1) := by decide +kernel
theorem dX6_add_10 : decode cX6_add 10 = .ok (.if_icmp .ge 13, 3) := by decide +kernel
theorem dX6_add_13 : decode cX6_add 13 = .ok (.aload_n 0, 1) := by decide +kernel
theorem dX6_add_14 : decode cX6_add 14 = .ok (.getfield 7, 3) := by decide +kernel
theorem dX6_add_17 : decode cX6_add 17 = .ok (.iload_n 1, 1) := by decide +kernel
theorem dX6_add_18 : decode cX6_add 18 = .ok (.dup2, 1) := by decide +kernel
theorem dX6_add_19 : decode cX6_add 19 = .ok (.iaload, 1) := by decide +kernel
theorem dX6_add_20 : decode cX6_add 20 = .ok (.iload_n 2, 1) := by decide +kernel
theorem dX6_add_21 : decode cX6_add 21 = .ok (.iadd, 1) := by decide +kernel
theorem dX6_add_22 : decode cX6_add 22 = .ok (.iastore, 1) := by decide +kernel
theorem dX6_add_23 : decode cX6_add 23 = .ok (.return_, 1) := by decide +kernel
theorem dX6_clear_0 : decode cX6_clear 0 = .ok (.aload_n 0, 1) := by decide +kernel
theorem dX6_clear_1 : decode cX6_clear 1 = .ok (.getfield 7, 3) := by decide +kernel
theorem dX6_clear_4 : decode cX6_clear 4 = .ok (.iconst 0, 1) := by decide +kernel
theorem dX6_clear_5 : decode cX6_clear 5 = .ok (.invokestatic 13, 3) := by decide +kernel
theorem dX6_clear_8 : decode cX6_clear 8 = .ok (.return_, 1) := by decide +kernel
theorem dX6_copyFrom_0 : decode cX6_copyFrom 0 = .ok (.aload_n 1, 1) := by decide +kernel
theorem dX6_copyFrom_1 : decode cX6_copyFrom 1 = .ok (.getfield 7, 3) := by decide +kernel
theorem dX6_copyFrom_4 : decode cX6_copyFrom 4 = .ok (.iconst 0, 1) := by decide +kernel
theorem dX6_copyFrom_5 : decode cX6_copyFrom 5 = .ok (.aload_n 0, 1) := by decide +kernel
theorem dX6_copyFrom_6 : decode cX6_copyFrom 6 = .ok (.getfield 7, 3) := by decide +kernel
theorem dX6_copyFrom_9 : decode cX6_copyFrom 9 = .ok (.iconst 0, 1) := by decide +kernel
theorem dX6_copyFrom_10 : decode cX6_copyFrom 10 = .ok (.aload_n 1, 1) := by decide +kernel
theorem dX6_copyFrom_11 : decode cX6_copyFrom 11 = .ok (.getfield 7, 3) := by decide +kernel
theorem dX6_copyFrom_14 : decode cX6_copyFrom 14 = .ok (.arraylength, 1) := by decide +kernel
theorem dX6_copyFrom_15 : decode cX6_copyFrom 15 = .ok (.aload_n 0, 1) := by decide +kernel
theorem dX6_copyFrom_16 : decode cX6_copyFrom 16 = .ok (.getfield 7, 3) := by decide +kernel
theorem dX6_copyFrom_19 : decode cX6_copyFrom 19 = .ok (.arraylength, 1) := by decide +kernel
theorem dX6_copyFrom_20 : decode cX6_copyFrom 20 = .ok (.invokestatic 19, 3) := by decide +kernel
theorem dX6_copyFrom_23 : decode cX6_copyFrom 23 = .ok (.invokestatic 25, 3) := by decide +kernel
theorem dX6_copyFrom_26 : decode cX6_copyFrom 26 = .ok (.return_, 1) := by decide +kernel
theorem dX7_init_0 : decode cX7_init 0 = .ok (.aload_n 0, 1) := by decide +kernel
theorem dX7_init_1 : decode cX7_init 1 = .ok (.invokespecial 3, 3) := by decide +kernel
theorem dX7_init_4 : decode cX7_init 4 = .ok (.aload_n 0, 1) := by decide +kernel
theorem dX7_init_5 : decode cX7_init 5 = .ok (.new 9, 3) := by decide +kernel
theorem dX7_init_8 : decode cX7_init 8 = .ok (.dup, 1) := by decide +kernel
theorem dX7_init_9 : decode cX7_init 9 = .ok (.bipush 16, 2) := by decide +kernel
theorem dX7_init_11 : decode cX7_init 11 = .ok (.invokespecial 11, 3) := by decide +kernel
theorem dX7_init_14 : decode cX7_init 14 = .ok (.putfield 14, 3) := by decide +kernel
theorem dX7_init_17 : decode cX7_init 17 = .ok (.aload_n 0, 1) := by decide +kernel
theorem dX7_init_18 : decode cX7_init 18 = .ok (.new 9, 3) := by decide +kernel
theorem dX7_init_21 : decode cX7_init 21 = .ok (.dup, 1) := by decide +kernel
theorem dX7_init_22 : decode cX7_init 22 = .ok (.sipush 128, 3) := by decide +kernel
theorem dX7_init_25 : decode cX7_init 25 = .ok (.invokespecial 11, 3) := by decide +kernel
theorem dX7_init_28 : decode cX7_init 28 = .ok (.putfield 20, 3) := by decide +kernel
theorem dX7_init_31 : decode cX7_init 31 = .ok (.aload_n 0, 1) := by decide +kernel
theorem dX7_init_32 : decode cX7_init 32 = .ok (.new 9, 3) := by decide +kernel
theorem dX7_init_35 : decode cX7_init 35 = .ok (.dup, 1) := by decide +kernel
theorem dX7_init_36 : decode cX7_init 36 = .ok (.sipush 128, 3) := by decide +kernel
theorem dX7_init_39 : decode cX7_init 39 = .ok (.invokespecial 11, 3) := by decide +kernel
theorem dX7_init_42 : decode cX7_init 42 = .ok (.putfield 23, 3) := by decide +kernel
theorem dX7_init_45 : decode cX7_init 45 = .ok (.aload_n 0, 1) := by decide +kernel
theorem dX7_init_46 : decode cX7_init 46 = .ok (.new 9, 3) := by decide +kernel
theorem dX7_init_49 : decode cX7_init 49 = .ok (.dup, 1) := by decide +kernel
theorem dX7_init_50 : decode cX7_init 50 = .ok (.sipush 128, 3) := by decide +kernel
theorem dX7_init_53 : decode cX7_init 53 = .ok (.invokespecial 11, 3) := by decide +kernel
theorem dX7_init_56 : decode cX7_init 56 = .ok (.putfield 26, 3) := by decide +kernel
theorem dX7_init_59 : decode cX7_init 59 = .ok (.aload_n 0, 1) := by decide +kernel
theorem dX7_init_60 : decode cX7_init 60 = .ok (.new 9, 3) := by decide +kernel
theorem dX7_init_63 : decode cX7_init 63 = .ok (.dup, 1) := by decide +kernel
theorem dX7_init_64 : decode cX7_init 64 = .ok (.bipush 24, 2) := by decide +kernel
theorem dX7_init_66 : decode cX7_init 66 = .ok (.invokespecial 11, 3) := by decide +kernel
theorem dX7_init_69 : decode cX7_init 69 = .ok (.putfield 29, 3) := by decide +kernel
theorem dX7_init_72 : decode cX7_init 72 = .ok (.return_, 1) := by decide +kernel
theorem dX7_noteAt_0 : decode cX7_noteAt 0 = .ok (.aload_n 0, 1) := by decide +kernel
theorem dX7_noteAt_1 : decode cX7_noteAt 1 = .ok (.getfield 20, 3) := by decide +kernel
theorem dX7_noteAt_4 : decode cX7_noteAt 4 = .ok (.iload_n 1, 1) := by decide +kernel
theorem dX7_noteAt_5 : decode cX7_noteAt 5 = .ok (.bipush 8, 2) := by decide +kernel
theorem dX7_noteAt_7 : decode cX7_noteAt 7 = .ok (.imul, 1) := by decide +kernel
theorem dX7_noteAt_8 : decode cX7_noteAt 8 = .ok (.iload_n 2, 1) := by decide +kernel
theorem dX7_noteAt_9 : decode cX7_noteAt 9 = .ok (.iadd, 1) := by decide +kernel
theorem dX7_noteAt_10 : decode cX7_noteAt 10 = .ok (.invokevirtual 32, 3) := by decide +kernel
theorem dX7_noteAt_13 : decode cX7_noteAt 13 = .ok (.ireturn, 1) := by decide +kernel
theorem dX7_valueAt_0 : decode cX7_valueAt 0 = .ok (.aload_n 0, 1) := by decide +kernel
theorem dX7_valueAt_1 : decode cX7_valueAt 1 = .ok (.getfield 23, 3) := by decide +kernel
theorem dX7_valueAt_4 : decode cX7_valueAt 4 = .ok (.iload_n 1, 1) := by decide +kernel
theorem dX7_valueAt_5 : decode cX7_valueAt 5 = .ok (.bipush 8, 2) := by decide +kernel
theorem dX7_valueAt_7 : decode cX7_valueAt 7 = .ok (.imul, 1) := by decide +kernel
theorem dX7_valueAt_8 : decode cX7_valueAt 8 = .ok (.iload_n 2, 1) := by decide +kernel
theorem dX7_valueAt_9 : decode cX7_valueAt 9 = .ok (.iadd, 1) := by decide +kernel
theorem dX7_valueAt_10 : decode cX7_valueAt 10 = .ok (.invokevirtual 32, 3) := by decide +kernel
theorem dX7_valueAt_13 : decode cX7_valueAt 13 = .ok (.ireturn, 1) := by decide +kernel
theorem dX7_isChangedAt_0 : decode cX7_isChangedAt 0 = .ok (.aload_n 0, 1) := by decide +kernel
theorem dX7_isChangedAt_1 : decode cX7_isChangedAt 1 = .ok (.getfield 26, 3) := by decide +kernel
theorem dX7_isChangedAt_4 : decode cX7_isChangedAt 4 = .ok (.iload_n 1, 1) := by decide +kernel
theorem dX7_isChangedAt_5 : decode cX7_isChangedAt 5 = .ok (.bipush 8, 2) := by decide +kernel
theorem dX7_isChangedAt_7 : decode cX7_isChangedAt 7 = .ok (.imul, 1) := by decide +kernel
theorem dX7_isChangedAt_8 : decode cX7_isChangedAt 8 = .ok (.iload_n 2, 1) := by decide +kernel
theorem dX7_isChangedAt_9 : decode cX7_isChangedAt 9 = .ok (.iadd, 1) := by decide +kernel
theorem dX7_isChangedAt_10 : decode cX7_isChangedAt 10 = .ok (.invokevirtual 32, 3) := by decide +kernel
theorem dX7_isChangedAt_13 : decode cX7_isChangedAt 13 = .ok (.iconst 1, 1) := by decide +kernel
theorem dX7_isChangedAt_14 : decode cX7_isChangedAt 14 = .ok (.if_icmp .ne 7, 3) := by decide +kernel
theorem dX7_isChangedAt_17 : decode cX7_isChangedAt 17 = .ok (.iconst 1, 1) := by decide +kernel
theorem dX7_isChangedAt_18 : decode cX7_isChangedAt 18 = .ok (.goto 4, 3) := by decide +kernel
theorem dX7_isChangedAt_21 : decode cX7_isChangedAt 21 = .ok (.iconst 0, 1) := by decide +kernel
theorem dX7_isChangedAt_22 : decode cX7_isChangedAt 22 = .ok (.ireturn, 1) := by decide +kernel
theorem dX7_holds_0 : decode cX7_holds 0 = .ok (.iload_n 1, 1) := by decide +kernel
theorem dX7_holds_1 : decode cX7_holds 1 = .ok (.aload_n 0, 1) := by decide +kernel
theorem dX7_holds_2 : decode cX7_holds 2 = .ok (.getfield 29, 3) := by decide +kernel
theorem dX7_holds_5 : decode cX7_holds 5 = .ok (.iload_n 2, 1) := by decide +kernel
theorem dX7_holds_6 : decode cX7_holds 6 = .ok (.invokevirtual 32, 3) := by decide +kernel
theorem dX7_holds_9 : decode cX7_holds 9 = .ok (.invokestatic 36, 3) := by decide +kernel
theorem dX7_holds_12 : decode cX7_holds 12 = .ok (.ireturn, 1) := by decide +kernel
theorem dX7_placeOf_0 : decode cX7_placeOf 0 = .ok (.iload_n 1, 1) := by decide +kernel
theorem dX7_placeOf_1 : decode cX7_placeOf 1 = .ok (.bipush 8, 2) := by decide +kernel
theorem dX7_placeOf_3 : decode cX7_placeOf 3 = .ok (.imul, 1) := by decide +kernel
theorem dX7_placeOf_4 : decode cX7_placeOf 4 = .ok (.istore_n 3, 1) := by decide +kernel
theorem dX7_placeOf_5 : decode cX7_placeOf 5 = .ok (.aload_n 0, 1) := by decide +kernel
theorem dX7_placeOf_6 : decode cX7_placeOf 6 = .ok (.getfield 14, 3) := by decide +kernel
theorem dX7_placeOf_9 : decode cX7_placeOf 9 = .ok (.iload_n 1, 1) := by decide +kernel
theorem dX7_placeOf_10 : decode cX7_placeOf 10 = .ok (.invokevirtual 32, 3) := by decide +kernel
theorem dX7_placeOf_13 : decode cX7_placeOf 13 = .ok (.istore 4, 2) := by decide +kernel
theorem dX7_placeOf_15 : decode cX7_placeOf 15 = .ok (.iconst 0, 1) := by decide +kernel
theorem dX7_placeOf_16 : decode cX7_placeOf 16 = .ok (.istore 5, 2) := by decide +kernel
theorem dX7_placeOf_18 : decode cX7_placeOf 18 = .ok (.iload 5, 2) := by decide +kernel
theorem dX7_placeOf_20 : decode cX7_placeOf 20 = .ok (.iload 4, 2) := by decide +kernel
theorem dX7_placeOf_22 : decode cX7_placeOf 22 = .ok (.if_icmp .ge 27, 3) := by decide +kernel
theorem dX7_placeOf_25 : decode cX7_placeOf 25 = .ok (.aload_n 0, 1) := by decide +kernel
theorem dX7_placeOf_26 : decode cX7_placeOf 26 = .ok (.getfield 20, 3) := by decide +kernel
theorem dX7_placeOf_29 : decode cX7_placeOf 29 = .ok (.iload_n 3, 1) := by decide +kernel
theorem dX7_placeOf_30 : decode cX7_placeOf 30 = .ok (.iload 5, 2) := by decide +kernel
theorem dX7_placeOf_32 : decode cX7_placeOf 32 = .ok (.iadd, 1) := by decide +kernel
theorem dX7_placeOf_33 : decode cX7_placeOf 33 = .ok (.invokevirtual 32, 3) := by decide +kernel
theorem dX7_placeOf_36 : decode cX7_placeOf 36 = .ok (.iload_n 2, 1) := by decide +kernel
theorem dX7_placeOf_37 : decode cX7_placeOf 37 = .ok (.if_icmp .ne 6, 3) := by decide +kernel
theorem dX7_placeOf_40 : decode cX7_placeOf 40 = .ok (.iload 5, 2) := by decide +kernel
theorem dX7_placeOf_42 : decode cX7_placeOf 42 = .ok (.ireturn, 1) := by decide +kernel
theorem dX7_placeOf_43 : decode cX7_placeOf 43 = .ok (.iinc 5 1, 3) := by decide +kernel
theorem dX7_placeOf_46 : decode cX7_placeOf 46 = .ok (.goto (-28), 3) := by decide +kernel
theorem dX7_placeOf_49 : decode cX7_placeOf 49 = .ok (.iconst (-1), 1) := by decide +kernel
theorem dX7_placeOf_50 : decode cX7_placeOf 50 = .ok (.ireturn, 1) := by decide +kernel
theorem dX7_lay_0 : decode cX7_lay 0 = .ok (.aload_n 0, 1) := by decide +kernel
theorem dX7_lay_1 : decode cX7_lay 1 = .ok (.getfield 14, 3) := by decide +kernel
theorem dX7_lay_4 : decode cX7_lay 4 = .ok (.iload_n 1, 1) := by decide +kernel
theorem dX7_lay_5 : decode cX7_lay 5 = .ok (.invokevirtual 32, 3) := by decide +kernel
theorem dX7_lay_8 : decode cX7_lay 8 = .ok (.istore 5, 2) := by decide +kernel
theorem dX7_lay_10 : decode cX7_lay 10 = .ok (.iload 5, 2) := by decide +kernel
theorem dX7_lay_12 : decode cX7_lay 12 = .ok (.bipush 8, 2) := by decide +kernel
theorem dX7_lay_14 : decode cX7_lay 14 = .ok (.if_icmp .lt 4, 3) := by decide +kernel
theorem dX7_lay_17 : decode cX7_lay 17 = .ok (.return_, 1) := by decide +kernel
theorem dX7_lay_18 : decode cX7_lay 18 = .ok (.iload_n 1, 1) := by decide +kernel
theorem dX7_lay_19 : decode cX7_lay 19 = .ok (.bipush 8, 2) := by decide +kernel
theorem dX7_lay_21 : decode cX7_lay 21 = .ok (.imul, 1) := by decide +kernel
theorem dX7_lay_22 : decode cX7_lay 22 = .ok (.iload 5, 2) := by decide +kernel
theorem dX7_lay_24 : decode cX7_lay 24 = .ok (.iadd, 1) := by decide +kernel
theorem dX7_lay_25 : decode cX7_lay 25 = .ok (.istore 6, 2) := by decide +kernel
theorem dX7_lay_27 : decode cX7_lay 27 = .ok (.aload_n 0, 1) := by decide +kernel
theorem dX7_lay_28 : decode cX7_lay 28 = .ok (.getfield 20, 3) := by decide +kernel
theorem dX7_lay_31 : decode cX7_lay 31 = .ok (.iload 6, 2) := by decide +kernel
theorem dX7_lay_33 : decode cX7_lay 33 = .ok (.iload_n 2, 1) := by decide +kernel
theorem dX7_lay_34 : decode cX7_lay 34 = .ok (.invokevirtual 40, 3) := by decide +kernel
theorem dX7_lay_37 : decode cX7_lay 37 = .ok (.aload_n 0, 1) := by decide +kernel
theorem dX7_lay_38 : decode cX7_lay 38 = .ok (.getfield 23, 3) := by decide +kernel
theorem dX7_lay_41 : decode cX7_lay 41 = .ok (.iload 6, 2) := by decide +kernel
theorem dX7_lay_43 : decode cX7_lay 43 = .ok (.iload_n 3, 1) := by decide +kernel
theorem dX7_lay_44 : decode cX7_lay 44 = .ok (.invokevirtual 40, 3) := by decide +kernel
theorem dX7_lay_47 : decode cX7_lay 47 = .ok (.aload_n 0, 1) := by decide +kernel
theorem dX7_lay_48 : decode cX7_lay 48 = .ok (.getfield 26, 3) := by decide +kernel
theorem dX7_lay_51 : decode cX7_lay 51 = .ok (.iload 6, 2) := by decide +kernel
theorem dX7_lay_53 : decode cX7_lay 53 = .ok (.iload 4, 2) := by decide +kernel
theorem dX7_lay_55 : decode cX7_lay 55 = .ok (.ifCond .eq 7, 3) := by decide +kernel
theorem dX7_lay_58 : decode cX7_lay 58 = .ok (.iconst 1, 1) := by decide +kernel
theorem dX7_lay_59 : decode cX7_lay 59 = .ok (.goto 4, 3) := by decide +kernel
theorem dX7_lay_62 : decode cX7_lay 62 = .ok (.iconst 0, 1) := by decide +kernel
theorem dX7_lay_63 : decode cX7_lay 63 = .ok (.invokevirtual 40, 3) := by decide +kernel
theorem dX7_lay_66 : decode cX7_lay 66 = .ok (.aload_n 0, 1) := by decide +kernel
theorem dX7_lay_67 : decode cX7_lay 67 = .ok (.getfield 14, 3) := by decide +kernel
theorem dX7_lay_70 : decode cX7_lay 70 = .ok (.iload_n 1, 1) := by decide +kernel
theorem dX7_lay_71 : decode cX7_lay 71 = .ok (.iload 5, 2) := by decide +kernel
theorem dX7_lay_73 : decode cX7_lay 73 = .ok (.iconst 1, 1) := by decide +kernel
theorem dX7_lay_74 : decode cX7_lay 74 = .ok (.iadd, 1) := by decide +kernel
theorem dX7_lay_75 : decode cX7_lay 75 = .ok (.invokevirtual 40, 3) := by decide +kernel
theorem dX7_lay_78 : decode cX7_lay 78 = .ok (.aload_n 0, 1) := by decide +kernel
theorem dX7_lay_79 : decode cX7_lay 79 = .ok (.getfield 29, 3) := by decide +kernel
theorem dX7_lay_82 : decode cX7_lay 82 = .ok (.iload_n 2, 1) := by decide +kernel
theorem dX7_lay_83 : decode cX7_lay 83 = .ok (.aload_n 0, 1) := by decide +kernel
theorem dX7_lay_84 : decode cX7_lay 84 = .ok (.getfield 29, 3) := by decide +kernel
theorem dX7_lay_87 : decode cX7_lay 87 = .ok (.iload_n 2, 1) := by decide +kernel
theorem dX7_lay_88 : decode cX7_lay 88 = .ok (.invokevirtual 32, 3) := by decide +kernel
theorem dX7_lay_91 : decode cX7_lay 91 = .ok (.iload_n 1, 1) := by decide +kernel
theorem dX7_lay_92 : decode cX7_lay 92 = .ok (.invokestatic 44, 3) := by decide +kernel
theorem dX7_lay_95 : decode cX7_lay 95 = .ok (.ior, 1) := by decide +kernel
theorem dX7_lay_96 : decode cX7_lay 96 = .ok (.invokevirtual 40, 3) := by decide +kernel
theorem dX7_lay_99 : decode cX7_lay 99 = .ok (.return_, 1) := by decide +kernel
theorem dX7_remove_0 : decode cX7_remove 0 = .ok (.aload_n 0, 1) := by decide +kernel
theorem dX7_remove_1 : decode cX7_remove 1 = .ok (.getfield 14, 3) := by decide +kernel
theorem dX7_remove_4 : decode cX7_remove 4 = .ok (.iload_n 1, 1) := by decide +kernel
theorem dX7_remove_5 : decode cX7_remove 5 = .ok (.invokevirtual 32, 3) := by decide +kernel
theorem dX7_remove_8 : decode cX7_remove 8 = .ok (.istore_n 3, 1) := by decide +kernel
theorem dX7_remove_9 : decode cX7_remove 9 = .ok (.iload_n 2, 1) := by decide +kernel
theorem dX7_remove_10 : decode cX7_remove 10 = .ok (.ifCond .lt 8, 3) := by decide +kernel
theorem dX7_remove_13 : decode cX7_remove 13 = .ok (.iload_n 2, 1) := by decide +kernel
theorem dX7_remove_14 : decode cX7_remove 14 = .ok (.iload_n 3, 1) := by decide +kernel
theorem dX7_remove_15 : decode cX7_remove 15 = .ok (.if_icmp .lt 4, 3) := by decide +kernel
theorem dX7_remove_18 : decode cX7_remove 18 = .ok (.return_, 1) := by decide +kernel
theorem dX7_remove_19 : decode cX7_remove 19 = .ok (.iload_n 1, 1) := by decide +kernel
theorem dX7_remove_20 : decode cX7_remove 20 = .ok (.bipush 8, 2) := by decide +kernel
theorem dX7_remove_22 : decode cX7_remove 22 = .ok (.imul, 1) := by decide +kernel
theorem dX7_remove_23 : decode cX7_remove 23 = .ok (.iload_n 2, 1) := by decide +kernel
theorem dX7_remove_24 : decode cX7_remove 24 = .ok (.iadd, 1) := by decide +kernel
theorem dX7_remove_25 : decode cX7_remove 25 = .ok (.istore 4, 2) := by decide +kernel
theorem dX7_remove_27 : decode cX7_remove 27 = .ok (.iload_n 1, 1) := by decide +kernel
theorem dX7_remove_28 : decode cX7_remove 28 = .ok (.bipush 8, 2) := by decide +kernel
theorem dX7_remove_30 : decode cX7_remove 30 = .ok (.imul, 1) := by decide +kernel
theorem dX7_remove_31 : decode cX7_remove 31 = .ok (.iload_n 3, 1) := by decide +kernel
theorem dX7_remove_32 : decode cX7_remove 32 = .ok (.iadd, 1) := by decide +kernel
theorem dX7_remove_33 : decode cX7_remove 33 = .ok (.iconst 1, 1) := by decide +kernel
theorem dX7_remove_34 : decode cX7_remove 34 = .ok (.isub, 1) := by decide +kernel
theorem dX7_remove_35 : decode cX7_remove 35 = .ok (.istore 5, 2) := by decide +kernel
theorem dX7_remove_37 : decode cX7_remove 37 = .ok (.aload_n 0, 1) := by decide +kernel
theorem dX7_remove_38 : decode cX7_remove 38 = .ok (.getfield 20, 3) := by decide +kernel
theorem dX7_remove_41 : decode cX7_remove 41 = .ok (.iload 4, 2) := by decide +kernel
theorem dX7_remove_43 : decode cX7_remove 43 = .ok (.invokevirtual 32, 3) := by decide +kernel
theorem dX7_remove_46 : decode cX7_remove 46 = .ok (.istore 6, 2) := by decide +kernel
theorem dX7_remove_48 : decode cX7_remove 48 = .ok (.aload_n 0, 1) := by decide +kernel
theorem dX7_remove_49 : decode cX7_remove 49 = .ok (.getfield 29, 3) := by decide +kernel
theorem dX7_remove_52 : decode cX7_remove 52 = .ok (.iload 6, 2) := by decide +kernel
theorem dX7_remove_54 : decode cX7_remove 54 = .ok (.aload_n 0, 1) := by decide +kernel
theorem dX7_remove_55 : decode cX7_remove 55 = .ok (.getfield 29, 3) := by decide +kernel
theorem dX7_remove_58 : decode cX7_remove 58 = .ok (.iload 6, 2) := by decide +kernel
theorem dX7_remove_60 : decode cX7_remove 60 = .ok (.invokevirtual 32, 3) := by decide +kernel
theorem dX7_remove_63 : decode cX7_remove 63 = .ok (.iload_n 1, 1) := by decide +kernel
theorem dX7_remove_64 : decode cX7_remove 64 = .ok (.invokestatic 44, 3) := by decide +kernel
theorem dX7_remove_67 : decode cX7_remove 67 = .ok (.iconst (-1), 1) := by decide +kernel
theorem dX7_remove_68 : decode cX7_remove 68 = .ok (.ixor, 1) := by decide +kernel
theorem dX7_remove_69 : decode cX7_remove 69 = .ok (.iand, 1) := by decide +kernel
theorem dX7_remove_70 : decode cX7_remove 70 = .ok (.invokevirtual 40, 3) := by decide +kernel
theorem dX7_remove_73 : decode cX7_remove 73 = .ok (.iload 4, 2) := by decide +kernel
theorem dX7_remove_75 : decode cX7_remove 75 = .ok (.istore 7, 2) := by decide +kernel
theorem dX7_remove_77 : decode cX7_remove 77 = .ok (.iload 7, 2) := by decide +kernel
theorem dX7_remove_79 : decode cX7_remove 79 = .ok (.iload 5, 2) := by decide +kernel
theorem dX7_remove_81 : decode cX7_remove 81 = .ok (.if_icmp .ge 69, 3) := by decide +kernel
theorem dX7_remove_84 : decode cX7_remove 84 = .ok (.aload_n 0, 1) := by decide +kernel
theorem dX7_remove_85 : decode cX7_remove 85 = .ok (.getfield 20, 3) := by decide +kernel
theorem dX7_remove_88 : decode cX7_remove 88 = .ok (.iload 7, 2) := by decide +kernel
theorem dX7_remove_90 : decode cX7_remove 90 = .ok (.aload_n 0, 1) := by decide +kernel
theorem dX7_remove_91 : decode cX7_remove 91 = .ok (.getfield 20, 3) := by decide +kernel
theorem dX7_remove_94 : decode cX7_remove 94 = .ok (.iload 7, 2) := by decide +kernel
theorem dX7_remove_96 : decode cX7_remove 96 = .ok (.iconst 1, 1) := by decide +kernel
theorem dX7_remove_97 : decode cX7_remove 97 = .ok (.iadd, 1) := by decide +kernel
theorem dX7_remove_98 : decode cX7_remove 98 = .ok (.invokevirtual 32, 3) := by decide +kernel
theorem dX7_remove_101 : decode cX7_remove 101 = .ok (.invokevirtual 40, 3) := by decide +kernel
theorem dX7_remove_104 : decode cX7_remove 104 = .ok (.aload_n 0, 1) := by decide +kernel
theorem dX7_remove_105 : decode cX7_remove 105 = .ok (.getfield 23, 3) := by decide +kernel
theorem dX7_remove_108 : decode cX7_remove 108 = .ok (.iload 7, 2) := by decide +kernel
theorem dX7_remove_110 : decode cX7_remove 110 = .ok (.aload_n 0, 1) := by decide +kernel
theorem dX7_remove_111 : decode cX7_remove 111 = .ok (.getfield 23, 3) := by decide +kernel
theorem dX7_remove_114 : decode cX7_remove 114 = .ok (.iload 7, 2) := by decide +kernel
theorem dX7_remove_116 : decode cX7_remove 116 = .ok (.iconst 1, 1) := by decide +kernel
theorem dX7_remove_117 : decode cX7_remove 117 = .ok (.iadd, 1) := by decide +kernel
theorem dX7_remove_118 : decode cX7_remove 118 = .ok (.invokevirtual 32, 3) := by decide +kernel
theorem dX7_remove_121 : decode cX7_remove 121 = .ok (.invokevirtual 40, 3) := by decide +kernel
theorem dX7_remove_124 : decode cX7_remove 124 = .ok (.aload_n 0, 1) := by decide +kernel
theorem dX7_remove_125 : decode cX7_remove 125 = .ok (.getfield 26, 3) := by decide +kernel
theorem dX7_remove_128 : decode cX7_remove 128 = .ok (.iload 7, 2) := by decide +kernel
theorem dX7_remove_130 : decode cX7_remove 130 = .ok (.aload_n 0, 1) := by decide +kernel
theorem dX7_remove_131 : decode cX7_remove 131 = .ok (.getfield 26, 3) := by decide +kernel
theorem dX7_remove_134 : decode cX7_remove 134 = .ok (.iload 7, 2) := by decide +kernel
theorem dX7_remove_136 : decode cX7_remove 136 = .ok (.iconst 1, 1) := by decide +kernel
theorem dX7_remove_137 : decode cX7_remove 137 = .ok (.iadd, 1) := by decide +kernel
theorem dX7_remove_138 : decode cX7_remove 138 = .ok (.invokevirtual 32, 3) := by decide +kernel
theorem dX7_remove_141 : decode cX7_remove 141 = .ok (.invokevirtual 40, 3) := by decide +kernel
theorem dX7_remove_144 : decode cX7_remove 144 = .ok (.iinc 7 1, 3) := by decide +kernel
theorem dX7_remove_147 : decode cX7_remove 147 = .ok (.goto (-70), 3) := by decide +kernel
theorem dX7_remove_150 : decode cX7_remove 150 = .ok (.aload_n 0, 1) := by decide +kernel
theorem dX7_remove_151 : decode cX7_remove 151 = .ok (.getfield 14, 3) := by decide +kernel
theorem dX7_remove_154 : decode cX7_remove 154 = .ok (.iload_n 1, 1) := by decide +kernel
theorem dX7_remove_155 : decode cX7_remove 155 = .ok (.iload_n 3, 1) := by decide +kernel
theorem dX7_remove_156 : decode cX7_remove 156 = .ok (.iconst 1, 1) := by decide +kernel
theorem dX7_remove_157 : decode cX7_remove 157 = .ok (.isub, 1) := by decide +kernel
theorem dX7_remove_158 : decode cX7_remove 158 = .ok (.invokevirtual 40, 3) := by decide +kernel
theorem dX7_remove_161 : decode cX7_remove 161 = .ok (.return_, 1) := by decide +kernel
theorem dX7_howMany_0 : decode cX7_howMany 0 = .ok (.iconst 0, 1) := by decide +kernel
theorem dX7_howMany_1 : decode cX7_howMany 1 = .ok (.istore_n 1, 1) := by decide +kernel
theorem dX7_howMany_2 : decode cX7_howMany 2 = .ok (.iconst 0, 1) := by decide +kernel
theorem dX7_howMany_3 : decode cX7_howMany 3 = .ok (.istore_n 2, 1) := by decide +kernel
theorem dX7_howMany_4 : decode cX7_howMany 4 = .ok (.iload_n 2, 1) := by decide +kernel
theorem dX7_howMany_5 : decode cX7_howMany 5 = .ok (.bipush 16, 2) := by decide +kernel
theorem dX7_howMany_7 : decode cX7_howMany 7 = .ok (.if_icmp .ge 20, 3) := by decide +kernel
theorem dX7_howMany_10 : decode cX7_howMany 10 = .ok (.iload_n 1, 1) := by decide +kernel
theorem dX7_howMany_11 : decode cX7_howMany 11 = .ok (.aload_n 0, 1) := by decide +kernel
theorem dX7_howMany_12 : decode cX7_howMany 12 = .ok (.getfield 14, 3) := by decide +kernel
theorem dX7_howMany_15 : decode cX7_howMany 15 = .ok (.iload_n 2, 1) := by decide +kernel
theorem dX7_howMany_16 : decode cX7_howMany 16 = .ok (.invokevirtual 32, 3) := by decide +kernel
theorem dX7_howMany_19 : decode cX7_howMany 19 = .ok (.iadd, 1) := by decide +kernel
theorem dX7_howMany_20 : decode cX7_howMany 20 = .ok (.istore_n 1, 1) := by decide +kernel
theorem dX7_howMany_21 : decode cX7_howMany 21 = .ok (.iinc 2 1, 3) := by decide +kernel
theorem dX7_howMany_24 : decode cX7_howMany 24 = .ok (.goto (-20), 3) := by decide +kernel
theorem dX7_howMany_27 : decode cX7_howMany 27 = .ok (.iload_n 1, 1) := by decide +kernel
theorem dX7_howMany_28 : decode cX7_howMany 28 = .ok (.ireturn, 1) := by decide +kernel
theorem dX7_howManyChanged_0 : decode cX7_howManyChanged 0 = .ok (.iconst 0, 1) := by decide +kernel
theorem dX7_howManyChanged_1 : decode cX7_howManyChanged 1 = .ok (.istore_n 1, 1) := by decide +kernel
theorem dX7_howManyChanged_2 : decode cX7_howManyChanged 2 = .ok (.iconst 0, 1) := by decide +kernel
theorem dX7_howManyChanged_3 : decode cX7_howManyChanged 3 = .ok (.istore_n 2, 1) := by decide +kernel
theorem dX7_howManyChanged_4 : decode cX7_howManyChanged 4 = .ok (.iload_n 2, 1) := by decide +kernel
theorem dX7_howManyChanged_5 : decode cX7_howManyChanged 5 = .ok (.bipush 16, 2) := by decide +kernel
theorem dX7_howManyChanged_7 : decode cX7_howManyChanged 7 = .ok (.if_icmp .ge 51, 3) := by decide +kernel
theorem dX7_howManyChanged_10 : decode cX7_howManyChanged 10 = .ok (.aload_n 0, 1) := by decide +kernel
theorem dX7_howManyChanged_11 : decode cX7_howManyChanged 11 = .ok (.getfield 14, 3) := by decide +kernel
theorem dX7_howManyChanged_14 : decode cX7_howManyChanged 14 = .ok (.iload_n 2, 1) := by decide +kernel
theorem dX7_howManyChanged_15 : decode cX7_howManyChanged 15 = .ok (.invokevirtual 32, 3) := by decide +kernel
theorem dX7_howManyChanged_18 : decode cX7_howManyChanged 18 = .ok (.istore_n 3, 1) := by decide +kernel
theorem dX7_howManyChanged_19 : decode cX7_howManyChanged 19 = .ok (.iconst 0, 1) := by decide +kernel
theorem dX7_howManyChanged_20 : decode cX7_howManyChanged 20 = .ok (.istore 4, 2) := by decide +kernel
theorem dX7_howManyChanged_22 : decode cX7_howManyChanged 22 = .ok (.iload 4, 2) := by decide +kernel
theorem dX7_howManyChanged_24 : decode cX7_howManyChanged 24 = .ok (.iload_n 3, 1) := by decide +kernel
theorem dX7_howManyChanged_25 : decode cX7_howManyChanged 25 = .ok (.if_icmp .ge 27, 3) := by decide +kernel
theorem dX7_howManyChanged_28 : decode cX7_howManyChanged 28 = .ok (.iload_n 1, 1) := by decide +kernel
theorem dX7_howManyChanged_29 : decode cX7_howManyChanged 29 = .ok (.aload_n 0, 1) := by decide +kernel
theorem dX7_howManyChanged_30 : decode cX7_howManyChanged 30 = .ok (.iload_n 2, 1) := by decide +kernel
theorem dX7_howManyChanged_31 : decode cX7_howManyChanged 31 = .ok (.iload 4, 2) := by decide +kernel
theorem dX7_howManyChanged_33 : decode cX7_howManyChanged 33 = .ok (.invokevirtual 47, 3) := by decide +kernel
theorem dX7_howManyChanged_36 : decode cX7_howManyChanged 36 = .ok (.ifCond .eq 7, 3) := by decide +kernel
theorem dX7_howManyChanged_39 : decode cX7_howManyChanged 39 = .ok (.iconst 1, 1) := by decide +kernel
theorem dX7_howManyChanged_40 : decode cX7_howManyChanged 40 = .ok (.goto 4, 3) := by decide +kernel
theorem dX7_howManyChanged_43 : decode cX7_howManyChanged 43 = .ok (.iconst 0, 1) := by decide +kernel
theorem dX7_howManyChanged_44 : decode cX7_howManyChanged 44 = .ok (.iadd, 1) := by decide +kernel
theorem dX7_howManyChanged_45 : decode cX7_howManyChanged 45 = .ok (.istore_n 1, 1) := by decide +kernel
theorem dX7_howManyChanged_46 : decode cX7_howManyChanged 46 = .ok (.iinc 4 1, 3) := by decide +kernel
theorem dX7_howManyChanged_49 : decode cX7_howManyChanged 49 = .ok (.goto (-27), 3) := by decide +kernel
theorem dX7_howManyChanged_52 : decode cX7_howManyChanged 52 = .ok (.iinc 2 1, 3) := by decide +kernel
theorem dX7_howManyChanged_55 : decode cX7_howManyChanged 55 = .ok (.goto (-51), 3) := by decide +kernel
theorem dX7_howManyChanged_58 : decode cX7_howManyChanged 58 = .ok (.iload_n 1, 1) := by decide +kernel
theorem dX7_howManyChanged_59 : decode cX7_howManyChanged 59 = .ok (.ireturn, 1) := by decide +kernel
theorem dX7_clear_0 : decode cX7_clear 0 = .ok (.aload_n 0, 1) := by decide +kernel
theorem dX7_clear_1 : decode cX7_clear 1 = .ok (.getfield 14, 3) := by decide +kernel
theorem dX7_clear_4 : decode cX7_clear 4 = .ok (.invokevirtual 50, 3) := by decide +kernel
theorem dX7_clear_7 : decode cX7_clear 7 = .ok (.aload_n 0, 1) := by decide +kernel
theorem dX7_clear_8 : decode cX7_clear 8 = .ok (.getfield 29, 3) := by decide +kernel
theorem dX7_clear_11 : decode cX7_clear 11 = .ok (.invokevirtual 50, 3) := by decide +kernel
theorem dX7_clear_14 : decode cX7_clear 14 = .ok (.return_, 1) := by decide +kernel
theorem dX7_copyFrom_0 : decode cX7_copyFrom 0 = .ok (.aload_n 0, 1) := by decide +kernel
theorem dX7_copyFrom_1 : decode cX7_copyFrom 1 = .ok (.getfield 14, 3) := by decide +kernel
theorem dX7_copyFrom_4 : decode cX7_copyFrom 4 = .ok (.aload_n 1, 1) := by decide +kernel
theorem dX7_copyFrom_5 : decode cX7_copyFrom 5 = .ok (.getfield 14, 3) := by decide +kernel
theorem dX7_copyFrom_8 : decode cX7_copyFrom 8 = .ok (.invokevirtual 53, 3) := by decide +kernel
theorem dX7_copyFrom_11 : decode cX7_copyFrom 11 = .ok (.aload_n 0, 1) := by decide +kernel
theorem dX7_copyFrom_12 : decode cX7_copyFrom 12 = .ok (.getfield 20, 3) := by decide +kernel
theorem dX7_copyFrom_15 : decode cX7_copyFrom 15 = .ok (.aload_n 1, 1) := by decide +kernel
theorem dX7_copyFrom_16 : decode cX7_copyFrom 16 = .ok (.getfield 20, 3) := by decide +kernel
theorem dX7_copyFrom_19 : decode cX7_copyFrom 19 = .ok (.invokevirtual 53, 3) := by decide +kernel
theorem dX7_copyFrom_22 : decode cX7_copyFrom 22 = .ok (.aload_n 0, 1) := by decide +kernel
theorem dX7_copyFrom_23 : decode cX7_copyFrom 23 = .ok (.getfield 23, 3) := by decide +kernel
theorem dX7_copyFrom_26 : decode cX7_copyFrom 26 = .ok (.aload_n 1, 1) := by decide +kernel
theorem dX7_copyFrom_27 : decode cX7_copyFrom 27 = .ok (.getfield 23, 3) := by decide +kernel
theorem dX7_copyFrom_30 : decode cX7_copyFrom 30 = .ok (.invokevirtual 53, 3) := by decide +kernel
theorem dX7_copyFrom_33 : decode cX7_copyFrom 33 = .ok (.aload_n 0, 1) := by decide +kernel
theorem dX7_copyFrom_34 : decode cX7_copyFrom 34 = .ok (.getfield 26, 3) := by decide +kernel
theorem dX7_copyFrom_37 : decode cX7_copyFrom 37 = .ok (.aload_n 1, 1) := by decide +kernel
theorem dX7_copyFrom_38 : decode cX7_copyFrom 38 = .ok (.getfield 26, 3) := by decide +kernel
theorem dX7_copyFrom_41 : decode cX7_copyFrom 41 = .ok (.invokevirtual 53, 3) := by decide +kernel
theorem dX7_copyFrom_44 : decode cX7_copyFrom 44 = .ok (.aload_n 0, 1) := by decide +kernel
theorem dX7_copyFrom_45 : decode cX7_copyFrom 45 = .ok (.getfield 29, 3) := by decide +kernel
theorem dX7_copyFrom_48 : decode cX7_copyFrom 48 = .ok (.aload_n 1, 1) := by decide +kernel
theorem dX7_copyFrom_49 : decode cX7_copyFrom 49 = .ok (.getfield 29, 3) := by decide +kernel
theorem dX7_copyFrom_52 : decode cX7_copyFrom 52 = .ok (.invokevirtual 53, 3) := by decide +kernel
theorem dX7_copyFrom_55 : decode cX7_copyFrom 55 = .ok (.return_, 1) := by decide +kernel
theorem dX8_init_0 : decode cX8_init 0 = .ok (.aload_n 0, 1) := by decide +kernel
theorem dX8_init_1 : decode cX8_init 1 = .ok (.invokespecial 1, 3) := by decide +kernel
theorem dX8_init_4 : decode cX8_init 4 = .ok (.aload_n 0, 1) := by decide +kernel
theorem dX8_init_5 : decode cX8_init 5 = .ok (.new 7, 3) := by decide +kernel
theorem dX8_init_8 : decode cX8_init 8 = .ok (.dup, 1) := by decide +kernel
theorem dX8_init_9 : decode cX8_init 9 = .ok (.invokespecial 9, 3) := by decide +kernel
theorem dX8_init_12 : decode cX8_init 12 = .ok (.putfield 10, 3) := by decide +kernel
theorem dX8_init_15 : decode cX8_init 15 = .ok (.aload_n 0, 1) := by decide +kernel
theorem dX8_init_16 : decode cX8_init 16 = .ok (.new 7, 3) := by decide +kernel
theorem dX8_init_19 : decode cX8_init 19 = .ok (.dup, 1) := by decide +kernel
theorem dX8_init_20 : decode cX8_init 20 = .ok (.invokespecial 9, 3) := by decide +kernel
theorem dX8_init_23 : decode cX8_init 23 = .ok (.putfield 16, 3) := by decide +kernel
theorem dX8_init_26 : decode cX8_init 26 = .ok (.aload_n 0, 1) := by decide +kernel
theorem dX8_init_27 : decode cX8_init 27 = .ok (.new 19, 3) := by decide +kernel
theorem dX8_init_30 : decode cX8_init 30 = .ok (.dup, 1) := by decide +kernel
theorem dX8_init_31 : decode cX8_init 31 = .ok (.invokespecial 21, 3) := by decide +kernel
theorem dX8_init_34 : decode cX8_init 34 = .ok (.putfield 22, 3) := by decide +kernel
theorem dX8_init_37 : decode cX8_init 37 = .ok (.aload_n 0, 1) := by decide +kernel
end
section
theorem dX8_init_38 : decode cX8_init 38 = .ok (.iconst 2, 1) := by decide +kernel
theorem dX8_init_39 : decode cX8_init 39 = .ok (.anewarray 7, 3) := by decide +kernel
theorem dX8_init_42 : decode cX8_init 42 = .ok (.putfield 26, 3) := by decide +kernel
theorem dX8_init_45 : decode cX8_init 45 = .ok (.aload_n 0, 1) := by decide +kernel
theorem dX8_init_46 : decode cX8_init 46 = .ok (.new 30, 3) := by decide +kernel
theorem dX8_init_49 : decode cX8_init 49 = .ok (.dup, 1) := by decide +kernel
theorem dX8_init_50 : decode cX8_init 50 = .ok (.invokespecial 32, 3) := by decide +kernel
theorem dX8_init_53 : decode cX8_init 53 = .ok (.putfield 33, 3) := by decide +kernel
theorem dX8_init_56 : decode cX8_init 56 = .ok (.aload_n 0, 1) := by decide +kernel
theorem dX8_init_57 : decode cX8_init 57 = .ok (.new 37, 3) := by decide +kernel
theorem dX8_init_60 : decode cX8_init 60 = .ok (.dup, 1) := by decide +kernel
theorem dX8_init_61 : decode cX8_init 61 = .ok (.aload_n 0, 1) := by decide +kernel
theorem dX8_init_62 : decode cX8_init 62 = .ok (.getfield 33, 3) := by decide +kernel
theorem dX8_init_65 : decode cX8_init 65 = .ok (.invokespecial 39, 3) := by decide +kernel
theorem dX8_init_68 : decode cX8_init 68 = .ok (.putfield 42, 3) := by decide +kernel
theorem dX8_init_71 : decode cX8_init 71 = .ok (.return_, 1) := by decide +kernel
theorem dX8_set_0 : decode cX8_set 0 = .ok (.iload_n 1, 1) := by decide +kernel
theorem dX8_set_1 : decode cX8_set 1 = .ok (.iload_n 2, 1) := by decide +kernel
theorem dX8_set_2 : decode cX8_set 2 = .ok (.invokestatic 46, 3) := by decide +kernel
theorem dX8_set_5 : decode cX8_set 5 = .ok (.ifCond .ne 6, 3) := by decide +kernel
theorem dX8_set_8 : decode cX8_set 8 = .ok (.bipush (-2), 2) := by decide +kernel
theorem dX8_set_10 : decode cX8_set 10 = .ok (.ireturn, 1) := by decide +kernel
theorem dX8_set_11 : decode cX8_set 11 = .ok (.iload_n 1, 1) := by decide +kernel
theorem dX8_set_12 : decode cX8_set 12 = .ok (.ifCond .eq 8, 3) := by decide +kernel
theorem dX8_set_15 : decode cX8_set 15 = .ok (.iload_n 1, 1) := by decide +kernel
theorem dX8_set_16 : decode cX8_set 16 = .ok (.iconst 1, 1) := by decide +kernel
theorem dX8_set_17 : decode cX8_set 17 = .ok (.if_icmp .ne 19, 3) := by decide +kernel
theorem dX8_set_20 : decode cX8_set 20 = .ok (.aload_n 0, 1) := by decide +kernel
theorem dX8_set_21 : decode cX8_set 21 = .ok (.getfield 10, 3) := by decide +kernel
theorem dX8_set_24 : decode cX8_set 24 = .ok (.getfield 50, 3) := by decide +kernel
theorem dX8_set_27 : decode cX8_set 27 = .ok (.invokevirtual 54, 3) := by decide +kernel
theorem dX8_set_30 : decode cX8_set 30 = .ok (.ifCond .le 6, 3) := by decide +kernel
theorem dX8_set_33 : decode cX8_set 33 = .ok (.bipush (-5), 2) := by decide +kernel
theorem dX8_set_35 : decode cX8_set 35 = .ok (.ireturn, 1) := by decide +kernel
theorem dX8_set_36 : decode cX8_set 36 = .ok (.aload_n 0, 1) := by decide +kernel
theorem dX8_set_37 : decode cX8_set 37 = .ok (.getfield 22, 3) := by decide +kernel
theorem dX8_set_40 : decode cX8_set 40 = .ok (.aload_n 0, 1) := by decide +kernel
theorem dX8_set_41 : decode cX8_set 41 = .ok (.getfield 10, 3) := by decide +kernel
theorem dX8_set_44 : decode cX8_set 44 = .ok (.invokevirtual 60, 3) := by decide +kernel
theorem dX8_set_47 : decode cX8_set 47 = .ok (.aload_n 0, 1) := by decide +kernel
theorem dX8_set_48 : decode cX8_set 48 = .ok (.getfield 10, 3) := by decide +kernel
theorem dX8_set_51 : decode cX8_set 51 = .ok (.getfield 64, 3) := by decide +kernel
theorem dX8_set_54 : decode cX8_set 54 = .ok (.iload_n 1, 1) := by decide +kernel
theorem dX8_set_55 : decode cX8_set 55 = .ok (.invokevirtual 68, 3) := by decide +kernel
theorem dX8_set_58 : decode cX8_set 58 = .ok (.istore_n 3, 1) := by decide +kernel
theorem dX8_set_59 : decode cX8_set 59 = .ok (.aload_n 0, 1) := by decide +kernel
theorem dX8_set_60 : decode cX8_set 60 = .ok (.getfield 10, 3) := by decide +kernel
theorem dX8_set_63 : decode cX8_set 63 = .ok (.getfield 64, 3) := by decide +kernel
theorem dX8_set_66 : decode cX8_set 66 = .ok (.iload_n 1, 1) := by decide +kernel
theorem dX8_set_67 : decode cX8_set 67 = .ok (.iload_n 2, 1) := by decide +kernel
theorem dX8_set_68 : decode cX8_set 68 = .ok (.invokevirtual 74, 3) := by decide +kernel
theorem dX8_set_71 : decode cX8_set 71 = .ok (.iload_n 3, 1) := by decide +kernel
theorem dX8_set_72 : decode cX8_set 72 = .ok (.ireturn, 1) := by decide +kernel
theorem dX8_read_0 : decode cX8_read 0 = .ok (.aload_n 0, 1) := by decide +kernel
theorem dX8_read_1 : decode cX8_read 1 = .ok (.iconst 0, 1) := by decide +kernel
theorem dX8_read_2 : decode cX8_read 2 = .ok (.iload_n 1, 1) := by decide +kernel
theorem dX8_read_3 : decode cX8_read 3 = .ok (.iload_n 2, 1) := by decide +kernel
theorem dX8_read_4 : decode cX8_read 4 = .ok (.iconst 0, 1) := by decide +kernel
theorem dX8_read_5 : decode cX8_read 5 = .ok (.iconst 1, 1) := by decide +kernel
theorem dX8_read_6 : decode cX8_read 6 = .ok (.invokevirtual 78, 3) := by decide +kernel
theorem dX8_read_9 : decode cX8_read 9 = .ok (.ireturn, 1) := by decide +kernel
theorem dX8_change_0 : decode cX8_change 0 = .ok (.aload_n 0, 1) := by decide +kernel
theorem dX8_change_1 : decode cX8_change 1 = .ok (.iconst 1, 1) := by decide +kernel
theorem dX8_change_2 : decode cX8_change 2 = .ok (.iload_n 1, 1) := by decide +kernel
theorem dX8_change_3 : decode cX8_change 3 = .ok (.iload_n 2, 1) := by decide +kernel
theorem dX8_change_4 : decode cX8_change 4 = .ok (.iload_n 3, 1) := by decide +kernel
theorem dX8_change_5 : decode cX8_change 5 = .ok (.iconst 1, 1) := by decide +kernel
theorem dX8_change_6 : decode cX8_change 6 = .ok (.invokevirtual 78, 3) := by decide +kernel
theorem dX8_change_9 : decode cX8_change 9 = .ok (.ireturn, 1) := by decide +kernel
theorem dX8_putBack_0 : decode cX8_putBack 0 = .ok (.aload_n 0, 1) := by decide +kernel
theorem dX8_putBack_1 : decode cX8_putBack 1 = .ok (.iconst 2, 1) := by decide +kernel
theorem dX8_putBack_2 : decode cX8_putBack 2 = .ok (.iload_n 1, 1) := by decide +kernel
theorem dX8_putBack_3 : decode cX8_putBack 3 = .ok (.iload_n 2, 1) := by decide +kernel
theorem dX8_putBack_4 : decode cX8_putBack 4 = .ok (.iconst 0, 1) := by decide +kernel
theorem dX8_putBack_5 : decode cX8_putBack 5 = .ok (.iconst 1, 1) := by decide +kernel
theorem dX8_putBack_6 : decode cX8_putBack 6 = .ok (.invokevirtual 78, 3) := by decide +kernel
theorem dX8_putBack_9 : decode cX8_putBack 9 = .ok (.ireturn, 1) := by decide +kernel
theorem dX8_recall_0 : decode cX8_recall 0 = .ok (.aload_n 0, 1) := by decide +kernel
theorem dX8_recall_1 : decode cX8_recall 1 = .ok (.iconst 3, 1) := by decide +kernel
theorem dX8_recall_2 : decode cX8_recall 2 = .ok (.iconst 0, 1) := by decide +kernel
theorem dX8_recall_3 : decode cX8_recall 3 = .ok (.iload_n 1, 1) := by decide +kernel
theorem dX8_recall_4 : decode cX8_recall 4 = .ok (.iconst 0, 1) := by decide +kernel
theorem dX8_recall_5 : decode cX8_recall 5 = .ok (.iconst 1, 1) := by decide +kernel
theorem dX8_recall_6 : decode cX8_recall 6 = .ok (.invokevirtual 78, 3) := by decide +kernel
theorem dX8_recall_9 : decode cX8_recall 9 = .ok (.ireturn, 1) := by decide +kernel
theorem dX8_happen_0 : decode cX8_happen 0 = .ok (.aload_n 0, 1) := by decide +kernel
theorem dX8_happen_1 : decode cX8_happen 1 = .ok (.getfield 10, 3) := by decide +kernel
theorem dX8_happen_4 : decode cX8_happen 4 = .ok (.iload_n 1, 1) := by decide +kernel
theorem dX8_happen_5 : decode cX8_happen 5 = .ok (.iload_n 2, 1) := by decide +kernel
theorem dX8_happen_6 : decode cX8_happen 6 = .ok (.iload_n 3, 1) := by decide +kernel
theorem dX8_happen_7 : decode cX8_happen 7 = .ok (.iload 4, 2) := by decide +kernel
theorem dX8_happen_9 : decode cX8_happen 9 = .ok (.invokevirtual 82, 3) := by decide +kernel
theorem dX8_happen_12 : decode cX8_happen 12 = .ok (.istore 6, 2) := by decide +kernel
theorem dX8_happen_14 : decode cX8_happen 14 = .ok (.iload 6, 2) := by decide +kernel
theorem dX8_happen_16 : decode cX8_happen 16 = .ok (.ifCond .eq 6, 3) := by decide +kernel
theorem dX8_happen_19 : decode cX8_happen 19 = .ok (.iload 6, 2) := by decide +kernel
theorem dX8_happen_21 : decode cX8_happen 21 = .ok (.ireturn, 1) := by decide +kernel
theorem dX8_happen_22 : decode cX8_happen 22 = .ok (.iload 5, 2) := by decide +kernel
theorem dX8_happen_24 : decode cX8_happen 24 = .ok (.ifCond .eq 14, 3) := by decide +kernel
theorem dX8_happen_27 : decode cX8_happen 27 = .ok (.aload_n 0, 1) := by decide +kernel
theorem dX8_happen_28 : decode cX8_happen 28 = .ok (.getfield 22, 3) := by decide +kernel
theorem dX8_happen_31 : decode cX8_happen 31 = .ok (.aload_n 0, 1) := by decide +kernel
theorem dX8_happen_32 : decode cX8_happen 32 = .ok (.getfield 10, 3) := by decide +kernel
theorem dX8_happen_35 : decode cX8_happen 35 = .ok (.invokevirtual 60, 3) := by decide +kernel
theorem dX8_happen_38 : decode cX8_happen 38 = .ok (.iload_n 1, 1) := by decide +kernel
theorem dX8_happen_39 : decode cX8_happen 39 = .ok (.tableswitch 94 0 2 #[25, 48, 73], 25) := by decide +kernel
theorem dX8_happen_64 : decode cX8_happen 64 = .ok (.aload_n 0, 1) := by decide +kernel
theorem dX8_happen_65 : decode cX8_happen 65 = .ok (.getfield 10, 3) := by decide +kernel
theorem dX8_happen_68 : decode cX8_happen 68 = .ok (.getfield 86, 3) := by decide +kernel
theorem dX8_happen_71 : decode cX8_happen 71 = .ok (.iload_n 1, 1) := by decide +kernel
theorem dX8_happen_72 : decode cX8_happen 72 = .ok (.iload_n 2, 1) := by decide +kernel
theorem dX8_happen_73 : decode cX8_happen 73 = .ok (.iload_n 3, 1) := by decide +kernel
theorem dX8_happen_74 : decode cX8_happen 74 = .ok (.invokevirtual 90, 3) := by decide +kernel
theorem dX8_happen_77 : decode cX8_happen 77 = .ok (.aload_n 0, 1) := by decide +kernel
theorem dX8_happen_78 : decode cX8_happen 78 = .ok (.getfield 10, 3) := by decide +kernel
theorem dX8_happen_81 : decode cX8_happen 81 = .ok (.iload_n 2, 1) := by decide +kernel
theorem dX8_happen_82 : decode cX8_happen 82 = .ok (.iload_n 3, 1) := by decide +kernel
theorem dX8_happen_83 : decode cX8_happen 83 = .ok (.invokevirtual 96, 3) := by decide +kernel
theorem dX8_happen_86 : decode cX8_happen 86 = .ok (.ireturn, 1) := by decide +kernel
theorem dX8_happen_87 : decode cX8_happen 87 = .ok (.aload_n 0, 1) := by decide +kernel
theorem dX8_happen_88 : decode cX8_happen 88 = .ok (.getfield 10, 3) := by decide +kernel
theorem dX8_happen_91 : decode cX8_happen 91 = .ok (.getfield 86, 3) := by decide +kernel
theorem dX8_happen_94 : decode cX8_happen 94 = .ok (.iload_n 1, 1) := by decide +kernel
theorem dX8_happen_95 : decode cX8_happen 95 = .ok (.iload_n 2, 1) := by decide +kernel
theorem dX8_happen_96 : decode cX8_happen 96 = .ok (.iload_n 3, 1) := by decide +kernel
theorem dX8_happen_97 : decode cX8_happen 97 = .ok (.invokevirtual 90, 3) := by decide +kernel
theorem dX8_happen_100 : decode cX8_happen 100 = .ok (.aload_n 0, 1) := by decide +kernel
theorem dX8_happen_101 : decode cX8_happen 101 = .ok (.getfield 10, 3) := by decide +kernel
theorem dX8_happen_104 : decode cX8_happen 104 = .ok (.iload_n 2, 1) := by decide +kernel
theorem dX8_happen_105 : decode cX8_happen 105 = .ok (.iload_n 3, 1) := by decide +kernel
theorem dX8_happen_106 : decode cX8_happen 106 = .ok (.iload 4, 2) := by decide +kernel
theorem dX8_happen_108 : decode cX8_happen 108 = .ok (.invokevirtual 100, 3) := by decide +kernel
theorem dX8_happen_111 : decode cX8_happen 111 = .ok (.ireturn, 1) := by decide +kernel
theorem dX8_happen_112 : decode cX8_happen 112 = .ok (.aload_n 0, 1) := by decide +kernel
theorem dX8_happen_113 : decode cX8_happen 113 = .ok (.getfield 10, 3) := by decide +kernel
theorem dX8_happen_116 : decode cX8_happen 116 = .ok (.iload_n 2, 1) := by decide +kernel
theorem dX8_happen_117 : decode cX8_happen 117 = .ok (.aload_n 0, 1) := by decide +kernel
theorem dX8_happen_118 : decode cX8_happen 118 = .ok (.getfield 10, 3) := by decide +kernel
theorem dX8_happen_121 : decode cX8_happen 121 = .ok (.getfield 104, 3) := by decide +kernel
theorem dX8_happen_124 : decode cX8_happen 124 = .ok (.iload_n 2, 1) := by decide +kernel
theorem dX8_happen_125 : decode cX8_happen 125 = .ok (.iload_n 3, 1) := by decide +kernel
theorem dX8_happen_126 : decode cX8_happen 126 = .ok (.invokevirtual 108, 3) := by decide +kernel
theorem dX8_happen_129 : decode cX8_happen 129 = .ok (.invokevirtual 113, 3) := by decide +kernel
theorem dX8_happen_132 : decode cX8_happen 132 = .ok (.ireturn, 1) := by decide +kernel
theorem dX8_happen_133 : decode cX8_happen 133 = .ok (.aload_n 0, 1) := by decide +kernel
theorem dX8_happen_134 : decode cX8_happen 134 = .ok (.getfield 10, 3) := by decide +kernel
theorem dX8_happen_137 : decode cX8_happen 137 = .ok (.iload_n 3, 1) := by decide +kernel
theorem dX8_happen_138 : decode cX8_happen 138 = .ok (.invokevirtual 116, 3) := by decide +kernel
theorem dX8_happen_141 : decode cX8_happen 141 = .ok (.ireturn, 1) := by decide +kernel
theorem dX8_ofNote_0 : decode cX8_ofNote 0 = .ok (.iload_n 1, 1) := by decide +kernel
theorem dX8_ofNote_1 : decode cX8_ofNote 1 = .ok (.invokestatic 119, 3) := by decide +kernel
theorem dX8_ofNote_4 : decode cX8_ofNote 4 = .ok (.ifCond .ne 5, 3) := by decide +kernel
theorem dX8_ofNote_7 : decode cX8_ofNote 7 = .ok (.iconst (-1), 1) := by decide +kernel
theorem dX8_ofNote_8 : decode cX8_ofNote 8 = .ok (.ireturn, 1) := by decide +kernel
theorem dX8_ofNote_9 : decode cX8_ofNote 9 = .ok (.aload_n 0, 1) := by decide +kernel
theorem dX8_ofNote_10 : decode cX8_ofNote 10 = .ok (.getfield 10, 3) := by decide +kernel
theorem dX8_ofNote_13 : decode cX8_ofNote 13 = .ok (.iload_n 1, 1) := by decide +kernel
theorem dX8_ofNote_14 : decode cX8_ofNote 14 = .ok (.invokevirtual 123, 3) := by decide +kernel
theorem dX8_ofNote_17 : decode cX8_ofNote 17 = .ok (.istore_n 3, 1) := by decide +kernel
theorem dX8_ofNote_18 : decode cX8_ofNote 18 = .ok (.aload_n 0, 1) := by decide +kernel
theorem dX8_ofNote_19 : decode cX8_ofNote 19 = .ok (.getfield 10, 3) := by decide +kernel
theorem dX8_ofNote_22 : decode cX8_ofNote 22 = .ok (.getfield 104, 3) := by decide +kernel
theorem dX8_ofNote_25 : decode cX8_ofNote 25 = .ok (.getfield 126, 3) := by decide +kernel
theorem dX8_ofNote_28 : decode cX8_ofNote 28 = .ok (.iload_n 1, 1) := by decide +kernel
theorem dX8_ofNote_29 : decode cX8_ofNote 29 = .ok (.invokevirtual 68, 3) := by decide +kernel
theorem dX8_ofNote_32 : decode cX8_ofNote 32 = .ok (.istore 4, 2) := by decide +kernel
theorem dX8_ofNote_34 : decode cX8_ofNote 34 = .ok (.iload_n 2, 1) := by decide +kernel
theorem dX8_ofNote_35 : decode cX8_ofNote 35 = .ok (.tableswitch 139 0 8 #[49, 61, 76, 91, 93, 96, 106, 115, 127], 49) := by decide +kernel
theorem dX8_ofNote_84 : decode cX8_ofNote 84 = .ok (.aload_n 0, 1) := by decide +kernel
theorem dX8_ofNote_85 : decode cX8_ofNote 85 = .ok (.getfield 10, 3) := by decide +kernel
theorem dX8_ofNote_88 : decode cX8_ofNote 88 = .ok (.getfield 129, 3) := by decide +kernel
theorem dX8_ofNote_91 : decode cX8_ofNote 91 = .ok (.iload_n 1, 1) := by decide +kernel
theorem dX8_ofNote_92 : decode cX8_ofNote 92 = .ok (.invokevirtual 68, 3) := by decide +kernel
theorem dX8_ofNote_95 : decode cX8_ofNote 95 = .ok (.ireturn, 1) := by decide +kernel
theorem dX8_ofNote_96 : decode cX8_ofNote 96 = .ok (.aload_n 0, 1) := by decide +kernel
theorem dX8_ofNote_97 : decode cX8_ofNote 97 = .ok (.getfield 10, 3) := by decide +kernel
theorem dX8_ofNote_100 : decode cX8_ofNote 100 = .ok (.getfield 50, 3) := by decide +kernel
theorem dX8_ofNote_103 : decode cX8_ofNote 103 = .ok (.getfield 132, 3) := by decide +kernel
theorem dX8_ofNote_106 : decode cX8_ofNote 106 = .ok (.iload_n 1, 1) := by decide +kernel
theorem dX8_ofNote_107 : decode cX8_ofNote 107 = .ok (.invokevirtual 68, 3) := by decide +kernel
theorem dX8_ofNote_110 : decode cX8_ofNote 110 = .ok (.ireturn, 1) := by decide +kernel
theorem dX8_ofNote_111 : decode cX8_ofNote 111 = .ok (.aload_n 0, 1) := by decide +kernel
theorem dX8_ofNote_112 : decode cX8_ofNote 112 = .ok (.getfield 10, 3) := by decide +kernel
theorem dX8_ofNote_115 : decode cX8_ofNote 115 = .ok (.getfield 50, 3) := by decide +kernel
theorem dX8_ofNote_118 : decode cX8_ofNote 118 = .ok (.getfield 135, 3) := by decide +kernel
theorem dX8_ofNote_121 : decode cX8_ofNote 121 = .ok (.iload_n 1, 1) := by decide +kernel
theorem dX8_ofNote_122 : decode cX8_ofNote 122 = .ok (.invokevirtual 68, 3) := by decide +kernel
theorem dX8_ofNote_125 : decode cX8_ofNote 125 = .ok (.ireturn, 1) := by decide +kernel
theorem dX8_ofNote_126 : decode cX8_ofNote 126 = .ok (.iload_n 3, 1) := by decide +kernel
theorem dX8_ofNote_127 : decode cX8_ofNote 127 = .ok (.ireturn, 1) := by decide +kernel
theorem dX8_ofNote_128 : decode cX8_ofNote 128 = .ok (.iload 4, 2) := by decide +kernel
theorem dX8_ofNote_130 : decode cX8_ofNote 130 = .ok (.ireturn, 1) := by decide +kernel
theorem dX8_ofNote_131 : decode cX8_ofNote 131 = .ok (.iload_n 3, 1) := by decide +kernel
theorem dX8_ofNote_132 : decode cX8_ofNote 132 = .ok (.iload 4, 2) := by decide +kernel
theorem dX8_ofNote_134 : decode cX8_ofNote 134 = .ok (.iconst (-1), 1) := by decide +kernel
theorem dX8_ofNote_135 : decode cX8_ofNote 135 = .ok (.ixor, 1) := by decide +kernel
theorem dX8_ofNote_136 : decode cX8_ofNote 136 = .ok (.iand, 1) := by decide +kernel
theorem dX8_ofNote_137 : decode cX8_ofNote 137 = .ok (.invokestatic 138, 3) := by decide +kernel
theorem dX8_ofNote_140 : decode cX8_ofNote 140 = .ok (.ireturn, 1) := by decide +kernel
theorem dX8_ofNote_141 : decode cX8_ofNote 141 = .ok (.aload_n 0, 1) := by decide +kernel
theorem dX8_ofNote_142 : decode cX8_ofNote 142 = .ok (.getfield 10, 3) := by decide +kernel
theorem dX8_ofNote_145 : decode cX8_ofNote 145 = .ok (.iload_n 1, 1) := by decide +kernel
theorem dX8_ofNote_146 : decode cX8_ofNote 146 = .ok (.invokevirtual 143, 3) := by decide +kernel
theorem dX8_ofNote_149 : decode cX8_ofNote 149 = .ok (.ireturn, 1) := by decide +kernel
theorem dX8_ofNote_150 : decode cX8_ofNote 150 = .ok (.aload_n 0, 1) := by decide +kernel
theorem dX8_ofNote_151 : decode cX8_ofNote 151 = .ok (.getfield 10, 3) := by decide +kernel
theorem dX8_ofNote_154 : decode cX8_ofNote 154 = .ok (.getfield 146, 3) := by decide +kernel
theorem dX8_ofNote_157 : decode cX8_ofNote 157 = .ok (.iload_n 1, 1) := by decide +kernel
theorem dX8_ofNote_158 : decode cX8_ofNote 158 = .ok (.invokevirtual 68, 3) := by decide +kernel
theorem dX8_ofNote_161 : decode cX8_ofNote 161 = .ok (.ireturn, 1) := by decide +kernel
theorem dX8_ofNote_162 : decode cX8_ofNote 162 = .ok (.aload_n 0, 1) := by decide +kernel
theorem dX8_ofNote_163 : decode cX8_ofNote 163 = .ok (.getfield 10, 3) := by decide +kernel
theorem dX8_ofNote_166 : decode cX8_ofNote 166 = .ok (.getfield 149, 3) := by decide +kernel
theorem dX8_ofNote_169 : decode cX8_ofNote 169 = .ok (.iload_n 1, 1) := by decide +kernel
theorem dX8_ofNote_170 : decode cX8_ofNote 170 = .ok (.invokevirtual 68, 3) := by decide +kernel
theorem dX8_ofNote_173 : decode cX8_ofNote 173 = .ok (.ireturn, 1) := by decide +kernel
theorem dX8_ofNote_174 : decode cX8_ofNote 174 = .ok (.bipush (-2), 2) := by decide +kernel
theorem dX8_ofNote_176 : decode cX8_ofNote 176 = .ok (.ireturn, 1) := by decide +kernel
theorem dX8_onShelf_0 : decode cX8_onShelf 0 = .ok (.iload_n 1, 1) := by decide +kernel
theorem dX8_onShelf_1 : decode cX8_onShelf 1 = .ok (.invokestatic 152, 3) := by decide +kernel
theorem dX8_onShelf_4 : decode cX8_onShelf 4 = .ok (.ifCond .eq 25, 3) := by decide +kernel
theorem dX8_onShelf_7 : decode cX8_onShelf 7 = .ok (.iload_n 2, 1) := by decide +kernel
theorem dX8_onShelf_8 : decode cX8_onShelf 8 = .ok (.ifCond .lt 21, 3) := by decide +kernel
theorem dX8_onShelf_11 : decode cX8_onShelf 11 = .ok (.iload_n 2, 1) := by decide +kernel
theorem dX8_onShelf_12 : decode cX8_onShelf 12 = .ok (.aload_n 0, 1) := by decide +kernel
theorem dX8_onShelf_13 : decode cX8_onShelf 13 = .ok (.getfield 10, 3) := by decide +kernel
theorem dX8_onShelf_16 : decode cX8_onShelf 16 = .ok (.getfield 104, 3) := by decide +kernel
theorem dX8_onShelf_19 : decode cX8_onShelf 19 = .ok (.getfield 155, 3) := by decide +kernel
theorem dX8_onShelf_22 : decode cX8_onShelf 22 = .ok (.iload_n 1, 1) := by decide +kernel
theorem dX8_onShelf_23 : decode cX8_onShelf 23 = .ok (.invokevirtual 68, 3) := by decide +kernel
theorem dX8_onShelf_26 : decode cX8_onShelf 26 = .ok (.if_icmp .lt 5, 3) := by decide +kernel
theorem dX8_onShelf_29 : decode cX8_onShelf 29 = .ok (.iconst (-1), 1) := by decide +kernel
theorem dX8_onShelf_30 : decode cX8_onShelf 30 = .ok (.ireturn, 1) := by decide +kernel
theorem dX8_onShelf_31 : decode cX8_onShelf 31 = .ok (.iload_n 3, 1) := by decide +kernel
theorem dX8_onShelf_32 : decode cX8_onShelf 32 = .ok (.tableswitch 75 0 2 #[28, 41, 54], 28) := by decide +kernel
theorem dX8_onShelf_60 : decode cX8_onShelf 60 = .ok (.aload_n 0, 1) := by decide +kernel
theorem dX8_onShelf_61 : decode cX8_onShelf 61 = .ok (.getfield 10, 3) := by decide +kernel
theorem dX8_onShelf_64 : decode cX8_onShelf 64 = .ok (.getfield 104, 3) := by decide +kernel
theorem dX8_onShelf_67 : decode cX8_onShelf 67 = .ok (.iload_n 1, 1) := by decide +kernel
theorem dX8_onShelf_68 : decode cX8_onShelf 68 = .ok (.iload_n 2, 1) := by decide +kernel
theorem dX8_onShelf_69 : decode cX8_onShelf 69 = .ok (.invokevirtual 158, 3) := by decide +kernel
theorem dX8_onShelf_72 : decode cX8_onShelf 72 = .ok (.ireturn, 1) := by decide +kernel
theorem dX8_onShelf_73 : decode cX8_onShelf 73 = .ok (.aload_n 0, 1) := by decide +kernel
theorem dX8_onShelf_74 : decode cX8_onShelf 74 = .ok (.getfield 10, 3) := by decide +kernel
theorem dX8_onShelf_77 : decode cX8_onShelf 77 = .ok (.getfield 104, 3) := by decide +kernel
theorem dX8_onShelf_80 : decode cX8_onShelf 80 = .ok (.iload_n 1, 1) := by decide +kernel
theorem dX8_onShelf_81 : decode cX8_onShelf 81 = .ok (.iload_n 2, 1) := by decide +kernel
theorem dX8_onShelf_82 : decode cX8_onShelf 82 = .ok (.invokevirtual 161, 3) := by decide +kernel
theorem dX8_onShelf_85 : decode cX8_onShelf 85 = .ok (.ireturn, 1) := by decide +kernel
theorem dX8_onShelf_86 : decode cX8_onShelf 86 = .ok (.aload_n 0, 1) := by decide +kernel
theorem dX8_onShelf_87 : decode cX8_onShelf 87 = .ok (.getfield 10, 3) := by decide +kernel
theorem dX8_onShelf_90 : decode cX8_onShelf 90 = .ok (.getfield 104, 3) := by decide +kernel
theorem dX8_onShelf_93 : decode cX8_onShelf 93 = .ok (.iload_n 1, 1) := by decide +kernel
theorem dX8_onShelf_94 : decode cX8_onShelf 94 = .ok (.iload_n 2, 1) := by decide +kernel
theorem dX8_onShelf_95 : decode cX8_onShelf 95 = .ok (.invokevirtual 164, 3) := by decide +kernel
theorem dX8_onShelf_98 : decode cX8_onShelf 98 = .ok (.ifCond .eq 7, 3) := by decide +kernel
theorem dX8_onShelf_101 : decode cX8_onShelf 101 = .ok (.iconst 1, 1) := by decide +kernel
theorem dX8_onShelf_102 : decode cX8_onShelf 102 = .ok (.goto 4, 3) := by decide +kernel
theorem dX8_onShelf_105 : decode cX8_onShelf 105 = .ok (.iconst 0, 1) := by decide +kernel
theorem dX8_onShelf_106 : decode cX8_onShelf 106 = .ok (.ireturn, 1) := by decide +kernel
theorem dX8_onShelf_107 : decode cX8_onShelf 107 = .ok (.bipush (-2), 2) := by decide +kernel
theorem dX8_onShelf_109 : decode cX8_onShelf 109 = .ok (.ireturn, 1) := by decide +kernel
theorem dX8_ofReader_0 : decode cX8_ofReader 0 = .ok (.iload_n 1, 1) := by decide +kernel
theorem dX8_ofReader_1 : decode cX8_ofReader 1 = .ok (.invokestatic 152, 3) := by decide +kernel
theorem dX8_ofReader_4 : decode cX8_ofReader 4 = .ok (.ifCond .ne 5, 3) := by decide +kernel
theorem dX8_ofReader_7 : decode cX8_ofReader 7 = .ok (.iconst (-1), 1) := by decide +kernel
theorem dX8_ofReader_8 : decode cX8_ofReader 8 = .ok (.ireturn, 1) := by decide +kernel
theorem dX8_ofReader_9 : decode cX8_ofReader 9 = .ok (.iload_n 2, 1) := by decide +kernel
theorem dX8_ofReader_10 : decode cX8_ofReader 10 = .ok (.tableswitch 130 0 6 #[42, 57, 73, 85, 97, 109, 121], 42) := by decide +kernel
theorem dX8_ofReader_52 : decode cX8_ofReader 52 = .ok (.aload_n 0, 1) := by decide +kernel
theorem dX8_ofReader_53 : decode cX8_ofReader 53 = .ok (.getfield 10, 3) := by decide +kernel
theorem dX8_ofReader_56 : decode cX8_ofReader 56 = .ok (.getfield 104, 3) := by decide +kernel
theorem dX8_ofReader_59 : decode cX8_ofReader 59 = .ok (.getfield 155, 3) := by decide +kernel
theorem dX8_ofReader_62 : decode cX8_ofReader 62 = .ok (.iload_n 1, 1) := by decide +kernel
theorem dX8_ofReader_63 : decode cX8_ofReader 63 = .ok (.invokevirtual 68, 3) := by decide +kernel
theorem dX8_ofReader_66 : decode cX8_ofReader 66 = .ok (.ireturn, 1) := by decide +kernel
theorem dX8_ofReader_67 : decode cX8_ofReader 67 = .ok (.iload_n 1, 1) := by decide +kernel
theorem dX8_ofReader_68 : decode cX8_ofReader 68 = .ok (.aload_n 0, 1) := by decide +kernel
theorem dX8_ofReader_69 : decode cX8_ofReader 69 = .ok (.getfield 10, 3) := by decide +kernel
theorem dX8_ofReader_72 : decode cX8_ofReader 72 = .ok (.getfield 64, 3) := by decide +kernel
theorem dX8_ofReader_75 : decode cX8_ofReader 75 = .ok (.iconst 1, 1) := by decide +kernel
theorem dX8_ofReader_76 : decode cX8_ofReader 76 = .ok (.invokevirtual 68, 3) := by decide +kernel
theorem dX8_ofReader_79 : decode cX8_ofReader 79 = .ok (.invokestatic 167, 3) := by decide +kernel
theorem dX8_ofReader_82 : decode cX8_ofReader 82 = .ok (.ireturn, 1) := by decide +kernel
theorem dX8_ofReader_83 : decode cX8_ofReader 83 = .ok (.aload_n 0, 1) := by decide +kernel
theorem dX8_ofReader_84 : decode cX8_ofReader 84 = .ok (.getfield 10, 3) := by decide +kernel
theorem dX8_ofReader_87 : decode cX8_ofReader 87 = .ok (.getfield 170, 3) := by decide +kernel
theorem dX8_ofReader_90 : decode cX8_ofReader 90 = .ok (.iload_n 1, 1) := by decide +kernel
theorem dX8_ofReader_91 : decode cX8_ofReader 91 = .ok (.invokevirtual 68, 3) := by decide +kernel
theorem dX8_ofReader_94 : decode cX8_ofReader 94 = .ok (.ireturn, 1) := by decide +kernel
theorem dX8_ofReader_95 : decode cX8_ofReader 95 = .ok (.aload_n 0, 1) := by decide +kernel
theorem dX8_ofReader_96 : decode cX8_ofReader 96 = .ok (.getfield 10, 3) := by decide +kernel
theorem dX8_ofReader_99 : decode cX8_ofReader 99 = .ok (.getfield 173, 3) := by decide +kernel
theorem dX8_ofReader_102 : decode cX8_ofReader 102 = .ok (.iload_n 1, 1) := by decide +kernel
theorem dX8_ofReader_103 : decode cX8_ofReader 103 = .ok (.invokevirtual 68, 3) := by decide +kernel
theorem dX8_ofReader_106 : decode cX8_ofReader 106 = .ok (.ireturn, 1) := by decide +kernel
theorem dX8_ofReader_107 : decode cX8_ofReader 107 = .ok (.aload_n 0, 1) := by decide +kernel
theorem dX8_ofReader_108 : decode cX8_ofReader 108 = .ok (.getfield 10, 3) := by decide +kernel
theorem dX8_ofReader_111 : decode cX8_ofReader 111 = .ok (.getfield 176, 3) := by decide +kernel
theorem dX8_ofReader_114 : decode cX8_ofReader 114 = .ok (.iload_n 1, 1) := by decide +kernel
theorem dX8_ofReader_115 : decode cX8_ofReader 115 = .ok (.invokevirtual 68, 3) := by decide +kernel
theorem dX8_ofReader_118 : decode cX8_ofReader 118 = .ok (.ireturn, 1) := by decide +kernel
theorem dX8_ofReader_119 : decode cX8_ofReader 119 = .ok (.aload_n 0, 1) := by decide +kernel
theorem dX8_ofReader_120 : decode cX8_ofReader 120 = .ok (.getfield 10, 3) := by decide +kernel
theorem dX8_ofReader_123 : decode cX8_ofReader 123 = .ok (.getfield 179, 3) := by decide +kernel
theorem dX8_ofReader_126 : decode cX8_ofReader 126 = .ok (.iload_n 1, 1) := by decide +kernel
theorem dX8_ofReader_127 : decode cX8_ofReader 127 = .ok (.invokevirtual 68, 3) := by decide +kernel
theorem dX8_ofReader_130 : decode cX8_ofReader 130 = .ok (.ireturn, 1) := by decide +kernel
theorem dX8_ofReader_131 : decode cX8_ofReader 131 = .ok (.aload_n 0, 1) := by decide +kernel
theorem dX8_ofReader_132 : decode cX8_ofReader 132 = .ok (.getfield 10, 3) := by decide +kernel
theorem dX8_ofReader_135 : decode cX8_ofReader 135 = .ok (.iload_n 1, 1) := by decide +kernel
theorem dX8_ofReader_136 : decode cX8_ofReader 136 = .ok (.invokevirtual 182, 3) := by decide +kernel
theorem dX8_ofReader_139 : decode cX8_ofReader 139 = .ok (.ireturn, 1) := by decide +kernel
theorem dX8_ofReader_140 : decode cX8_ofReader 140 = .ok (.bipush (-2), 2) := by decide +kernel
theorem dX8_ofReader_142 : decode cX8_ofReader 142 = .ok (.ireturn, 1) := by decide +kernel
theorem dX8_count_0 : decode cX8_count 0 = .ok (.iload_n 1, 1) := by decide +kernel
theorem dX8_count_1 : decode cX8_count 1 = .ok (.tableswitch 211 0 12 #[67, 79, 91, 103, 114, 125, 136, 147, 159, 171, 183, 195, 203], 67) := by decide +kernel
theorem dX8_count_68 : decode cX8_count 68 = .ok (.aload_n 0, 1) := by decide +kernel
theorem dX8_count_69 : decode cX8_count 69 = .ok (.getfield 10, 3) := by decide +kernel
theorem dX8_count_72 : decode cX8_count 72 = .ok (.getfield 185, 3) := by decide +kernel
theorem dX8_count_75 : decode cX8_count 75 = .ok (.iconst 0, 1) := by decide +kernel
theorem dX8_count_76 : decode cX8_count 76 = .ok (.invokevirtual 68, 3) := by decide +kernel
theorem dX8_count_79 : decode cX8_count 79 = .ok (.ireturn, 1) := by decide +kernel
theorem dX8_count_80 : decode cX8_count 80 = .ok (.aload_n 0, 1) := by decide +kernel
theorem dX8_count_81 : decode cX8_count 81 = .ok (.getfield 10, 3) := by decide +kernel
theorem dX8_count_84 : decode cX8_count 84 = .ok (.getfield 185, 3) := by decide +kernel
theorem dX8_count_87 : decode cX8_count 87 = .ok (.iconst 1, 1) := by decide +kernel
theorem dX8_count_88 : decode cX8_count 88 = .ok (.invokevirtual 68, 3) := by decide +kernel
theorem dX8_count_91 : decode cX8_count 91 = .ok (.ireturn, 1) := by decide +kernel
theorem dX8_count_92 : decode cX8_count 92 = .ok (.aload_n 0, 1) := by decide +kernel
theorem dX8_count_93 : decode cX8_count 93 = .ok (.getfield 10, 3) := by decide +kernel
theorem dX8_count_96 : decode cX8_count 96 = .ok (.getfield 185, 3) := by decide +kernel
theorem dX8_count_99 : decode cX8_count 99 = .ok (.iconst 2, 1) := by decide +kernel
theorem dX8_count_100 : decode cX8_count 100 = .ok (.invokevirtual 68, 3) := by decide +kernel
theorem dX8_count_103 : decode cX8_count 103 = .ok (.ireturn, 1) := by decide +kernel
theorem dX8_count_104 : decode cX8_count 104 = .ok (.aload_n 0, 1) := by decide +kernel
theorem dX8_count_105 : decode cX8_count 105 = .ok (.getfield 10, 3) := by decide +kernel
theorem dX8_count_108 : decode cX8_count 108 = .ok (.getfield 104, 3) := by decide +kernel
theorem dX8_count_111 : decode cX8_count 111 = .ok (.invokevirtual 188, 3) := by decide +kernel
theorem dX8_count_114 : decode cX8_count 114 = .ok (.ireturn, 1) := by decide +kernel
theorem dX8_count_115 : decode cX8_count 115 = .ok (.aload_n 0, 1) := by decide +kernel
theorem dX8_count_116 : decode cX8_count 116 = .ok (.getfield 10, 3) := by decide +kernel
theorem dX8_count_119 : decode cX8_count 119 = .ok (.getfield 104, 3) := by decide +kernel
theorem dX8_count_122 : decode cX8_count 122 = .ok (.invokevirtual 191, 3) := by decide +kernel
theorem dX8_count_125 : decode cX8_count 125 = .ok (.ireturn, 1) := by decide +kernel
theorem dX8_count_126 : decode cX8_count 126 = .ok (.aload_n 0, 1) := by decide +kernel
theorem dX8_count_127 : decode cX8_count 127 = .ok (.getfield 10, 3) := by decide +kernel
theorem dX8_count_130 : decode cX8_count 130 = .ok (.getfield 50, 3) := by decide +kernel
theorem dX8_count_133 : decode cX8_count 133 = .ok (.invokevirtual 54, 3) := by decide +kernel
theorem dX8_count_136 : decode cX8_count 136 = .ok (.ireturn, 1) := by decide +kernel
theorem dX8_count_137 : decode cX8_count 137 = .ok (.aload_n 0, 1) := by decide +kernel
theorem dX8_count_138 : decode cX8_count 138 = .ok (.getfield 10, 3) := by decide +kernel
theorem dX8_count_141 : decode cX8_count 141 = .ok (.getfield 50, 3) := by decide +kernel
theorem dX8_count_144 : decode cX8_count 144 = .ok (.invokevirtual 194, 3) := by decide +kernel
theorem dX8_count_147 : decode cX8_count 147 = .ok (.ireturn, 1) := by decide +kernel
theorem dX8_count_148 : decode cX8_count 148 = .ok (.aload_n 0, 1) := by decide +kernel
theorem dX8_count_149 : decode cX8_count 149 = .ok (.getfield 10, 3) := by decide +kernel
theorem dX8_count_152 : decode cX8_count 152 = .ok (.getfield 64, 3) := by decide +kernel
theorem dX8_count_155 : decode cX8_count 155 = .ok (.iconst 0, 1) := by decide +kernel
theorem dX8_count_156 : decode cX8_count 156 = .ok (.invokevirtual 68, 3) := by decide +kernel
theorem dX8_count_159 : decode cX8_count 159 = .ok (.ireturn, 1) := by decide +kernel
theorem dX8_count_160 : decode cX8_count 160 = .ok (.aload_n 0, 1) := by decide +kernel
theorem dX8_count_161 : decode cX8_count 161 = .ok (.getfield 10, 3) := by decide +kernel
theorem dX8_count_164 : decode cX8_count 164 = .ok (.getfield 64, 3) := by decide +kernel
theorem dX8_count_167 : decode cX8_count 167 = .ok (.iconst 1, 1) := by decide +kernel
theorem dX8_count_168 : decode cX8_count 168 = .ok (.invokevirtual 68, 3) := by decide +kernel
theorem dX8_count_171 : decode cX8_count 171 = .ok (.ireturn, 1) := by decide +kernel
theorem dX8_count_172 : decode cX8_count 172 = .ok (.aload_n 0, 1) := by decide +kernel
theorem dX8_count_173 : decode cX8_count 173 = .ok (.getfield 10, 3) := by decide +kernel
theorem dX8_count_176 : decode cX8_count 176 = .ok (.getfield 64, 3) := by decide +kernel
theorem dX8_count_179 : decode cX8_count 179 = .ok (.iconst 2, 1) := by decide +kernel
theorem dX8_count_180 : decode cX8_count 180 = .ok (.invokevirtual 68, 3) := by decide +kernel
theorem dX8_count_183 : decode cX8_count 183 = .ok (.ireturn, 1) := by decide +kernel
theorem dX8_count_184 : decode cX8_count 184 = .ok (.aload_n 0, 1) := by decide +kernel
theorem dX8_count_185 : decode cX8_count 185 = .ok (.getfield 10, 3) := by decide +kernel
theorem dX8_count_188 : decode cX8_count 188 = .ok (.getfield 64, 3) := by decide +kernel
theorem dX8_count_191 : decode cX8_count 191 = .ok (.iconst 3, 1) := by decide +kernel
theorem dX8_count_192 : decode cX8_count 192 = .ok (.invokevirtual 68, 3) := by decide +kernel
theorem dX8_count_195 : decode cX8_count 195 = .ok (.ireturn, 1) := by decide +kernel
theorem dX8_count_196 : decode cX8_count 196 = .ok (.aload_n 0, 1) := by decide +kernel
theorem dX8_count_197 : decode cX8_count 197 = .ok (.getfield 33, 3) := by decide +kernel
theorem dX8_count_200 : decode cX8_count 200 = .ok (.getfield 197, 3) := by decide +kernel
theorem dX8_count_203 : decode cX8_count 203 = .ok (.ireturn, 1) := by decide +kernel
theorem dX8_count_204 : decode cX8_count 204 = .ok (.aload_n 0, 1) := by decide +kernel
theorem dX8_count_205 : decode cX8_count 205 = .ok (.getfield 22, 3) := by decide +kernel
theorem dX8_count_208 : decode cX8_count 208 = .ok (.getfield 201, 3) := by decide +kernel
theorem dX8_count_211 : decode cX8_count 211 = .ok (.ireturn, 1) := by decide +kernel
theorem dX8_count_212 : decode cX8_count 212 = .ok (.bipush (-2), 2) := by decide +kernel
theorem dX8_count_214 : decode cX8_count 214 = .ok (.ireturn, 1) := by decide +kernel
theorem dX8_costOfReading_0 : decode cX8_costOfReading 0 = .ok (.iload_n 1, 1) := by decide +kernel
theorem dX8_costOfReading_1 : decode cX8_costOfReading 1 = .ok (.invokestatic 152, 3) := by decide +kernel
theorem dX8_costOfReading_4 : decode cX8_costOfReading 4 = .ok (.ifCond .eq 22, 3) := by decide +kernel
theorem dX8_costOfReading_7 : decode cX8_costOfReading 7 = .ok (.iload_n 2, 1) := by decide +kernel
theorem dX8_costOfReading_8 : decode cX8_costOfReading 8 = .ok (.invokestatic 119, 3) := by decide +kernel
theorem dX8_costOfReading_11 : decode cX8_costOfReading 11 = .ok (.ifCond .eq 15, 3) := by decide +kernel
theorem dX8_costOfReading_14 : decode cX8_costOfReading 14 = .ok (.aload_n 0, 1) := by decide +kernel
theorem dX8_costOfReading_15 : decode cX8_costOfReading 15 = .ok (.getfield 10, 3) := by decide +kernel
theorem dX8_costOfReading_18 : decode cX8_costOfReading 18 = .ok (.iload_n 1, 1) := by decide +kernel
theorem dX8_costOfReading_19 : decode cX8_costOfReading 19 = .ok (.iload_n 2, 1) := by decide +kernel
theorem dX8_costOfReading_20 : decode cX8_costOfReading 20 = .ok (.invokevirtual 202, 3) := by decide +kernel
theorem dX8_costOfReading_23 : decode cX8_costOfReading 23 = .ok (.goto 4, 3) := by decide +kernel
theorem dX8_costOfReading_26 : decode cX8_costOfReading 26 = .ok (.iconst (-1), 1) := by decide +kernel
theorem dX8_costOfReading_27 : decode cX8_costOfReading 27 = .ok (.ireturn, 1) := by decide +kernel
theorem dX8_costOfChange_0 : decode cX8_costOfChange 0 = .ok (.iload_n 1, 1) := by decide +kernel
theorem dX8_costOfChange_1 : decode cX8_costOfChange 1 = .ok (.invokestatic 152, 3) := by decide +kernel
theorem dX8_costOfChange_4 : decode cX8_costOfChange 4 = .ok (.ifCond .eq 10, 3) := by decide +kernel
theorem dX8_costOfChange_7 : decode cX8_costOfChange 7 = .ok (.iload_n 2, 1) := by decide +kernel
theorem dX8_costOfChange_8 : decode cX8_costOfChange 8 = .ok (.invokestatic 119, 3) := by decide +kernel
theorem dX8_costOfChange_11 : decode cX8_costOfChange 11 = .ok (.ifCond .ne 5, 3) := by decide +kernel
theorem dX8_costOfChange_14 : decode cX8_costOfChange 14 = .ok (.iconst (-1), 1) := by decide +kernel
theorem dX8_costOfChange_15 : decode cX8_costOfChange 15 = .ok (.ireturn, 1) := by decide +kernel
theorem dX8_costOfChange_16 : decode cX8_costOfChange 16 = .ok (.iload_n 3, 1) := by decide +kernel
theorem dX8_costOfChange_17 : decode cX8_costOfChange 17 = .ok (.lookupswitch 47 #[(0, 27), (1, 37)], 27) := by decide +kernel
theorem dX8_costOfChange_44 : decode cX8_costOfChange 44 = .ok (.aload_n 0, 1) := by decide +kernel
theorem dX8_costOfChange_45 : decode cX8_costOfChange 45 = .ok (.getfield 10, 3) := by decide +kernel
theorem dX8_costOfChange_48 : decode cX8_costOfChange 48 = .ok (.iload_n 1, 1) := by decide +kernel
theorem dX8_costOfChange_49 : decode cX8_costOfChange 49 = .ok (.iload_n 2, 1) := by decide +kernel
theorem dX8_costOfChange_50 : decode cX8_costOfChange 50 = .ok (.invokevirtual 205, 3) := by decide +kernel
theorem dX8_costOfChange_53 : decode cX8_costOfChange 53 = .ok (.ireturn, 1) := by decide +kernel
theorem dX8_costOfChange_54 : decode cX8_costOfChange 54 = .ok (.aload_n 0, 1) := by decide +kernel
theorem dX8_costOfChange_55 : decode cX8_costOfChange 55 = .ok (.getfield 10, 3) := by decide +kernel
theorem dX8_costOfChange_58 : decode cX8_costOfChange 58 = .ok (.iload_n 1, 1) := by decide +kernel
theorem dX8_costOfChange_59 : decode cX8_costOfChange 59 = .ok (.iload_n 2, 1) := by decide +kernel
theorem dX8_costOfChange_60 : decode cX8_costOfChange 60 = .ok (.invokevirtual 208, 3) := by decide +kernel
theorem dX8_costOfChange_63 : decode cX8_costOfChange 63 = .ok (.ireturn, 1) := by decide +kernel
theorem dX8_costOfChange_64 : decode cX8_costOfChange 64 = .ok (.bipush (-2), 2) := by decide +kernel
theorem dX8_costOfChange_66 : decode cX8_costOfChange 66 = .ok (.ireturn, 1) := by decide +kernel
theorem dX8_cheapest_0 : decode cX8_cheapest 0 = .ok (.iload_n 1, 1) := by decide +kernel
theorem dX8_cheapest_1 : decode cX8_cheapest 1 = .ok (.invokestatic 119, 3) := by decide +kernel
theorem dX8_cheapest_4 : decode cX8_cheapest 4 = .ok (.ifCond .ne 5, 3) := by decide +kernel
theorem dX8_cheapest_7 : decode cX8_cheapest 7 = .ok (.iconst (-1), 1) := by decide +kernel
theorem dX8_cheapest_8 : decode cX8_cheapest 8 = .ok (.ireturn, 1) := by decide +kernel
theorem dX8_cheapest_9 : decode cX8_cheapest 9 = .ok (.iconst 0, 1) := by decide +kernel
theorem dX8_cheapest_10 : decode cX8_cheapest 10 = .ok (.istore_n 2, 1) := by decide +kernel
theorem dX8_cheapest_11 : decode cX8_cheapest 11 = .ok (.aload_n 0, 1) := by decide +kernel
theorem dX8_cheapest_12 : decode cX8_cheapest 12 = .ok (.getfield 10, 3) := by decide +kernel
theorem dX8_cheapest_15 : decode cX8_cheapest 15 = .ok (.iconst 0, 1) := by decide +kernel
theorem dX8_cheapest_16 : decode cX8_cheapest 16 = .ok (.iload_n 1, 1) := by decide +kernel
theorem dX8_cheapest_17 : decode cX8_cheapest 17 = .ok (.invokevirtual 205, 3) := by decide +kernel
theorem dX8_cheapest_20 : decode cX8_cheapest 20 = .ok (.istore_n 3, 1) := by decide +kernel
theorem dX8_cheapest_21 : decode cX8_cheapest 21 = .ok (.iconst 1, 1) := by decide +kernel
theorem dX8_cheapest_22 : decode cX8_cheapest 22 = .ok (.istore 4, 2) := by decide +kernel
theorem dX8_cheapest_24 : decode cX8_cheapest 24 = .ok (.iload 4, 2) := by decide +kernel
theorem dX8_cheapest_26 : decode cX8_cheapest 26 = .ok (.bipush 16, 2) := by decide +kernel
theorem dX8_cheapest_28 : decode cX8_cheapest 28 = .ok (.if_icmp .ge 33, 3) := by decide +kernel
theorem dX8_cheapest_31 : decode cX8_cheapest 31 = .ok (.aload_n 0, 1) := by decide +kernel
theorem dX8_cheapest_32 : decode cX8_cheapest 32 = .ok (.getfield 10, 3) := by decide +kernel
theorem dX8_cheapest_35 : decode cX8_cheapest 35 = .ok (.iload 4, 2) := by decide +kernel
theorem dX8_cheapest_37 : decode cX8_cheapest 37 = .ok (.iload_n 1, 1) := by decide +kernel
theorem dX8_cheapest_38 : decode cX8_cheapest 38 = .ok (.invokevirtual 205, 3) := by decide +kernel
theorem dX8_cheapest_41 : decode cX8_cheapest 41 = .ok (.istore 5, 2) := by decide +kernel
theorem dX8_cheapest_43 : decode cX8_cheapest 43 = .ok (.iload 5, 2) := by decide +kernel
theorem dX8_cheapest_45 : decode cX8_cheapest 45 = .ok (.iload_n 3, 1) := by decide +kernel
theorem dX8_cheapest_46 : decode cX8_cheapest 46 = .ok (.if_icmp .ge 9, 3) := by decide +kernel
theorem dX8_cheapest_49 : decode cX8_cheapest 49 = .ok (.iload 4, 2) := by decide +kernel
theorem dX8_cheapest_51 : decode cX8_cheapest 51 = .ok (.istore_n 2, 1) := by decide +kernel
theorem dX8_cheapest_52 : decode cX8_cheapest 52 = .ok (.iload 5, 2) := by decide +kernel
theorem dX8_cheapest_54 : decode cX8_cheapest 54 = .ok (.istore_n 3, 1) := by decide +kernel
theorem dX8_cheapest_55 : decode cX8_cheapest 55 = .ok (.iinc 4 1, 3) := by decide +kernel
theorem dX8_cheapest_58 : decode cX8_cheapest 58 = .ok (.goto (-34), 3) := by decide +kernel
theorem dX8_cheapest_61 : decode cX8_cheapest 61 = .ok (.iload_n 2, 1) := by decide +kernel
theorem dX8_cheapest_62 : decode cX8_cheapest 62 = .ok (.ireturn, 1) := by decide +kernel
theorem dX8_loudest_0 : decode cX8_loudest 0 = .ok (.iload_n 1, 1) := by decide +kernel
theorem dX8_loudest_1 : decode cX8_loudest 1 = .ok (.ifCond .eq 11, 3) := by decide +kernel
theorem dX8_loudest_4 : decode cX8_loudest 4 = .ok (.iload_n 1, 1) := by decide +kernel
theorem dX8_loudest_5 : decode cX8_loudest 5 = .ok (.iconst 1, 1) := by decide +kernel
theorem dX8_loudest_6 : decode cX8_loudest 6 = .ok (.if_icmp .eq 6, 3) := by decide +kernel
theorem dX8_loudest_9 : decode cX8_loudest 9 = .ok (.bipush (-2), 2) := by decide +kernel
theorem dX8_loudest_11 : decode cX8_loudest 11 = .ok (.ireturn, 1) := by decide +kernel
theorem dX8_loudest_12 : decode cX8_loudest 12 = .ok (.bipush (-6), 2) := by decide +kernel
theorem dX8_loudest_14 : decode cX8_loudest 14 = .ok (.istore_n 2, 1) := by decide +kernel
theorem dX8_loudest_15 : decode cX8_loudest 15 = .ok (.iconst 0, 1) := by decide +kernel
theorem dX8_loudest_16 : decode cX8_loudest 16 = .ok (.istore_n 3, 1) := by decide +kernel
theorem dX8_loudest_17 : decode cX8_loudest 17 = .ok (.iconst 0, 1) := by decide +kernel
theorem dX8_loudest_18 : decode cX8_loudest 18 = .ok (.istore 4, 2) := by decide +kernel
theorem dX8_loudest_20 : decode cX8_loudest 20 = .ok (.iload 4, 2) := by decide +kernel
theorem dX8_loudest_22 : decode cX8_loudest 22 = .ok (.bipush 24, 2) := by decide +kernel
theorem dX8_loudest_24 : decode cX8_loudest 24 = .ok (.if_icmp .ge 32, 3) := by decide +kernel
theorem dX8_loudest_27 : decode cX8_loudest 27 = .ok (.aload_n 0, 1) := by decide +kernel
theorem dX8_loudest_28 : decode cX8_loudest 28 = .ok (.getfield 10, 3) := by decide +kernel
theorem dX8_loudest_31 : decode cX8_loudest 31 = .ok (.iload 4, 2) := by decide +kernel
theorem dX8_loudest_33 : decode cX8_loudest 33 = .ok (.invokevirtual 211, 3) := by decide +kernel
theorem dX8_loudest_36 : decode cX8_loudest 36 = .ok (.istore 5, 2) := by decide +kernel
theorem dX8_loudest_38 : decode cX8_loudest 38 = .ok (.iload 5, 2) := by decide +kernel
theorem dX8_loudest_40 : decode cX8_loudest 40 = .ok (.iload_n 3, 1) := by decide +kernel
theorem dX8_loudest_41 : decode cX8_loudest 41 = .ok (.if_icmp .le 9, 3) := by decide +kernel
theorem dX8_loudest_44 : decode cX8_loudest 44 = .ok (.iload 4, 2) := by decide +kernel
theorem dX8_loudest_46 : decode cX8_loudest 46 = .ok (.istore_n 2, 1) := by decide +kernel
theorem dX8_loudest_47 : decode cX8_loudest 47 = .ok (.iload 5, 2) := by decide +kernel
theorem dX8_loudest_49 : decode cX8_loudest 49 = .ok (.istore_n 3, 1) := by decide +kernel
theorem dX8_loudest_50 : decode cX8_loudest 50 = .ok (.iinc 4 1, 3) := by decide +kernel
theorem dX8_loudest_53 : decode cX8_loudest 53 = .ok (.goto (-33), 3) := by decide +kernel
theorem dX8_loudest_56 : decode cX8_loudest 56 = .ok (.iload_n 2, 1) := by decide +kernel
theorem dX8_loudest_57 : decode cX8_loudest 57 = .ok (.bipush (-6), 2) := by decide +kernel
theorem dX8_loudest_59 : decode cX8_loudest 59 = .ok (.if_icmp .eq 7, 3) := by decide +kernel
theorem dX8_loudest_62 : decode cX8_loudest 62 = .ok (.iload_n 1, 1) := by decide +kernel
theorem dX8_loudest_63 : decode cX8_loudest 63 = .ok (.ifCond .ne 7, 3) := by decide +kernel
theorem dX8_loudest_66 : decode cX8_loudest 66 = .ok (.iload_n 2, 1) := by decide +kernel
theorem dX8_loudest_67 : decode cX8_loudest 67 = .ok (.goto 4, 3) := by decide +kernel
theorem dX8_loudest_70 : decode cX8_loudest 70 = .ok (.iload_n 3, 1) := by decide +kernel
theorem dX8_loudest_71 : decode cX8_loudest 71 = .ok (.ireturn, 1) := by decide +kernel
theorem dX8_accountWith_0 : decode cX8_accountWith 0 = .ok (.iconst 0, 1) := by decide +kernel
theorem dX8_accountWith_1 : decode cX8_accountWith 1 = .ok (.iload_n 1, 1) := by decide +kernel
theorem dX8_accountWith_2 : decode cX8_accountWith 2 = .ok (.invokestatic 46, 3) := by decide +kernel
theorem dX8_accountWith_5 : decode cX8_accountWith 5 = .ok (.ifCond .eq 11, 3) := by decide +kernel
theorem dX8_accountWith_8 : decode cX8_accountWith 8 = .ok (.iconst 1, 1) := by decide +kernel
theorem dX8_accountWith_9 : decode cX8_accountWith 9 = .ok (.iload_n 2, 1) := by decide +kernel
theorem dX8_accountWith_10 : decode cX8_accountWith 10 = .ok (.invokestatic 46, 3) := by decide +kernel
theorem dX8_accountWith_13 : decode cX8_accountWith 13 = .ok (.ifCond .ne 6, 3) := by decide +kernel
theorem dX8_accountWith_16 : decode cX8_accountWith 16 = .ok (.bipush (-2), 2) := by decide +kernel
theorem dX8_accountWith_18 : decode cX8_accountWith 18 = .ok (.ireturn, 1) := by decide +kernel
theorem dX8_accountWith_19 : decode cX8_accountWith 19 = .ok (.aload_n 0, 1) := by decide +kernel
theorem dX8_accountWith_20 : decode cX8_accountWith 20 = .ok (.getfield 16, 3) := by decide +kernel
theorem dX8_accountWith_23 : decode cX8_accountWith 23 = .ok (.aload_n 0, 1) := by decide +kernel
theorem dX8_accountWith_24 : decode cX8_accountWith 24 = .ok (.getfield 10, 3) := by decide +kernel
theorem dX8_accountWith_27 : decode cX8_accountWith 27 = .ok (.iload_n 1, 1) := by decide +kernel
theorem dX8_accountWith_28 : decode cX8_accountWith 28 = .ok (.iload_n 2, 1) := by decide +kernel
theorem dX8_accountWith_29 : decode cX8_accountWith 29 = .ok (.invokevirtual 214, 3) := by decide +kernel
theorem dX8_accountWith_32 : decode cX8_accountWith 32 = .ok (.ireturn, 1) := by decide +kernel
theorem dX8_best_0 : decode cX8_best 0 = .ok (.iload_n 1, 1) := by decide +kernel
theorem dX8_best_1 : decode cX8_best 1 = .ok (.ifCond .lt 8, 3) := by decide +kernel
theorem dX8_best_4 : decode cX8_best 4 = .ok (.iload_n 1, 1) := by decide +kernel
theorem dX8_best_5 : decode cX8_best 5 = .ok (.iconst 2, 1) := by decide +kernel
theorem dX8_best_6 : decode cX8_best 6 = .ok (.if_icmp .le 6, 3) := by decide +kernel
theorem dX8_best_9 : decode cX8_best 9 = .ok (.bipush (-2), 2) := by decide +kernel
theorem dX8_best_11 : decode cX8_best 11 = .ok (.ireturn, 1) := by decide +kernel
theorem dX8_best_12 : decode cX8_best 12 = .ok (.iconst 0, 1) := by decide +kernel
theorem dX8_best_13 : decode cX8_best 13 = .ok (.istore_n 2, 1) := by decide +kernel
theorem dX8_best_14 : decode cX8_best 14 = .ok (.iconst 0, 1) := by decide +kernel
theorem dX8_best_15 : decode cX8_best 15 = .ok (.istore_n 3, 1) := by decide +kernel
theorem dX8_best_16 : decode cX8_best 16 = .ok (.bipush (-6), 2) := by decide +kernel
theorem dX8_best_18 : decode cX8_best 18 = .ok (.istore 4, 2) := by decide +kernel
theorem dX8_best_20 : decode cX8_best 20 = .ok (.getstatic 218, 3) := by decide +kernel
theorem dX8_best_23 : decode cX8_best 23 = .ok (.iconst 0, 1) := by decide +kernel
theorem dX8_best_24 : decode cX8_best 24 = .ok (.iaload, 1) := by decide +kernel
theorem dX8_best_25 : decode cX8_best 25 = .ok (.istore 5, 2) := by decide +kernel
theorem dX8_best_27 : decode cX8_best 27 = .ok (.iload 5, 2) := by decide +kernel
theorem dX8_best_29 : decode cX8_best 29 = .ok (.getstatic 222, 3) := by decide +kernel
theorem dX8_best_32 : decode cX8_best 32 = .ok (.iconst 0, 1) := by decide +kernel
theorem dX8_best_33 : decode cX8_best 33 = .ok (.iaload, 1) := by decide +kernel
theorem dX8_best_34 : decode cX8_best 34 = .ok (.if_icmp .gt 73, 3) := by decide +kernel
theorem dX8_best_37 : decode cX8_best 37 = .ok (.getstatic 218, 3) := by decide +kernel
theorem dX8_best_40 : decode cX8_best 40 = .ok (.iconst 1, 1) := by decide +kernel
theorem dX8_best_41 : decode cX8_best 41 = .ok (.iaload, 1) := by decide +kernel
theorem dX8_best_42 : decode cX8_best 42 = .ok (.istore 6, 2) := by decide +kernel
theorem dX8_best_44 : decode cX8_best 44 = .ok (.iload 6, 2) := by decide +kernel
theorem dX8_best_46 : decode cX8_best 46 = .ok (.getstatic 222, 3) := by decide +kernel
theorem dX8_best_49 : decode cX8_best 49 = .ok (.iconst 1, 1) := by decide +kernel
theorem dX8_best_50 : decode cX8_best 50 = .ok (.iaload, 1) := by decide +kernel
theorem dX8_best_51 : decode cX8_best 51 = .ok (.if_icmp .gt 50, 3) := by decide +kernel
theorem dX8_best_54 : decode cX8_best 54 = .ok (.aload_n 0, 1) := by decide +kernel
theorem dX8_best_55 : decode cX8_best 55 = .ok (.getfield 16, 3) := by decide +kernel
theorem dX8_best_58 : decode cX8_best 58 = .ok (.aload_n 0, 1) := by decide +kernel
theorem dX8_best_59 : decode cX8_best 59 = .ok (.getfield 10, 3) := by decide +kernel
theorem dX8_best_62 : decode cX8_best 62 = .ok (.iload 5, 2) := by decide +kernel
theorem dX8_best_64 : decode cX8_best 64 = .ok (.iload 6, 2) := by decide +kernel
theorem dX8_best_66 : decode cX8_best 66 = .ok (.invokevirtual 214, 3) := by decide +kernel
theorem dX8_best_69 : decode cX8_best 69 = .ok (.istore 7, 2) := by decide +kernel
theorem dX8_best_71 : decode cX8_best 71 = .ok (.iload 4, 2) := by decide +kernel
theorem dX8_best_73 : decode cX8_best 73 = .ok (.bipush (-6), 2) := by decide +kernel
theorem dX8_best_75 : decode cX8_best 75 = .ok (.if_icmp .eq 10, 3) := by decide +kernel
theorem dX8_best_78 : decode cX8_best 78 = .ok (.iload 7, 2) := by decide +kernel
theorem dX8_best_80 : decode cX8_best 80 = .ok (.iload 4, 2) := by decide +kernel
theorem dX8_best_82 : decode cX8_best 82 = .ok (.if_icmp .ge 13, 3) := by decide +kernel
theorem dX8_best_85 : decode cX8_best 85 = .ok (.iload 5, 2) := by decide +kernel
theorem dX8_best_87 : decode cX8_best 87 = .ok (.istore_n 2, 1) := by decide +kernel
theorem dX8_best_88 : decode cX8_best 88 = .ok (.iload 6, 2) := by decide +kernel
theorem dX8_best_90 : decode cX8_best 90 = .ok (.istore_n 3, 1) := by decide +kernel
theorem dX8_best_91 : decode cX8_best 91 = .ok (.iload 7, 2) := by decide +kernel
theorem dX8_best_93 : decode cX8_best 93 = .ok (.istore 4, 2) := by decide +kernel
theorem dX8_best_95 : decode cX8_best 95 = .ok (.iinc 6 1, 3) := by decide +kernel
theorem dX8_best_98 : decode cX8_best 98 = .ok (.goto (-54), 3) := by decide +kernel
theorem dX8_best_101 : decode cX8_best 101 = .ok (.iinc 5 1, 3) := by decide +kernel
theorem dX8_best_104 : decode cX8_best 104 = .ok (.goto (-77), 3) := by decide +kernel
theorem dX8_best_107 : decode cX8_best 107 = .ok (.iload_n 1, 1) := by decide +kernel
theorem dX8_best_108 : decode cX8_best 108 = .ok (.ifCond .ne 7, 3) := by decide +kernel
theorem dX8_best_111 : decode cX8_best 111 = .ok (.iload_n 2, 1) := by decide +kernel
theorem dX8_best_112 : decode cX8_best 112 = .ok (.goto 14, 3) := by decide +kernel
theorem dX8_best_115 : decode cX8_best 115 = .ok (.iload_n 1, 1) := by decide +kernel
theorem dX8_best_116 : decode cX8_best 116 = .ok (.iconst 1, 1) := by decide +kernel
theorem dX8_best_117 : decode cX8_best 117 = .ok (.if_icmp .ne 7, 3) := by decide +kernel
theorem dX8_best_120 : decode cX8_best 120 = .ok (.iload_n 3, 1) := by decide +kernel
theorem dX8_best_121 : decode cX8_best 121 = .ok (.goto 5, 3) := by decide +kernel
theorem dX8_best_124 : decode cX8_best 124 = .ok (.iload 4, 2) := by decide +kernel
theorem dX8_best_126 : decode cX8_best 126 = .ok (.ireturn, 1) := by decide +kernel
theorem dX8_account_0 : decode cX8_account 0 = .ok (.aload_n 0, 1) := by decide +kernel
theorem dX8_account_1 : decode cX8_account 1 = .ok (.getfield 22, 3) := by decide +kernel
theorem dX8_account_4 : decode cX8_account 4 = .ok (.aload_n 0, 1) := by decide +kernel
theorem dX8_account_5 : decode cX8_account 5 = .ok (.getfield 10, 3) := by decide +kernel
theorem dX8_account_8 : decode cX8_account 8 = .ok (.invokevirtual 60, 3) := by decide +kernel
theorem dX8_account_11 : decode cX8_account 11 = .ok (.aload_n 0, 1) := by decide +kernel
theorem dX8_account_12 : decode cX8_account 12 = .ok (.getfield 10, 3) := by decide +kernel
theorem dX8_account_15 : decode cX8_account 15 = .ok (.getfield 86, 3) := by decide +kernel
theorem dX8_account_18 : decode cX8_account 18 = .ok (.getfield 225, 3) := by decide +kernel
theorem dX8_account_21 : decode cX8_account 21 = .ok (.istore_n 1, 1) := by decide +kernel
theorem dX8_account_22 : decode cX8_account 22 = .ok (.aload_n 0, 1) := by decide +kernel
theorem dX8_account_23 : decode cX8_account 23 = .ok (.getfield 10, 3) := by decide +kernel
theorem dX8_account_26 : decode cX8_account 26 = .ok (.getfield 86, 3) := by decide +kernel
theorem dX8_account_29 : decode cX8_account 29 = .ok (.invokevirtual 226, 3) := by decide +kernel
theorem dX8_account_32 : decode cX8_account 32 = .ok (.iload_n 1, 1) := by decide +kernel
theorem dX8_account_33 : decode cX8_account 33 = .ok (.ireturn, 1) := by decide +kernel
theorem dX8_put_0 : decode cX8_put 0 = .ok (.lload_n 1, 1) := by decide +kernel
theorem dX8_put_1 : decode cX8_put 1 = .ok (.invokestatic 229, 3) := by decide +kernel
theorem dX8_put_4 : decode cX8_put 4 = .ok (.istore_n 3, 1) := by decide +kernel
theorem dX8_put_5 : decode cX8_put 5 = .ok (.iload_n 3, 1) := by decide +kernel
theorem dX8_put_6 : decode cX8_put 6 = .ok (.ifCond .ne 6, 3) := by decide +kernel
theorem dX8_put_9 : decode cX8_put 9 = .ok (.bipush (-2), 2) := by decide +kernel
theorem dX8_put_11 : decode cX8_put 11 = .ok (.ireturn, 1) := by decide +kernel
theorem dX8_put_12 : decode cX8_put 12 = .ok (.aload_n 0, 1) := by decide +kernel
theorem dX8_put_13 : decode cX8_put 13 = .ok (.getfield 33, 3) := by decide +kernel
theorem dX8_put_16 : decode cX8_put 16 = .ok (.getfield 197, 3) := by decide +kernel
theorem dX8_put_19 : decode cX8_put 19 = .ok (.iload_n 3, 1) := by decide +kernel
theorem dX8_put_20 : decode cX8_put 20 = .ok (.iadd, 1) := by decide +kernel
theorem dX8_put_21 : decode cX8_put 21 = .ok (.bipush 80, 2) := by decide +kernel
theorem dX8_put_23 : decode cX8_put 23 = .ok (.if_icmp .le 6, 3) := by decide +kernel
theorem dX8_put_26 : decode cX8_put 26 = .ok (.bipush (-4), 2) := by decide +kernel
theorem dX8_put_28 : decode cX8_put 28 = .ok (.ireturn, 1) := by decide +kernel
theorem dX8_put_29 : decode cX8_put 29 = .ok (.iload_n 3, 1) := by decide +kernel
theorem dX8_put_30 : decode cX8_put 30 = .ok (.iconst 1, 1) := by decide +kernel
theorem dX8_put_31 : decode cX8_put 31 = .ok (.isub, 1) := by decide +kernel
theorem dX8_put_32 : decode cX8_put 32 = .ok (.istore 4, 2) := by decide +kernel
theorem dX8_put_34 : decode cX8_put 34 = .ok (.iload 4, 2) := by decide +kernel
theorem dX8_put_36 : decode cX8_put 36 = .ok (.ifCond .lt 22, 3) := by decide +kernel
theorem dX8_put_39 : decode cX8_put 39 = .ok (.aload_n 0, 1) := by decide +kernel
theorem dX8_put_40 : decode cX8_put 40 = .ok (.getfield 33, 3) := by decide +kernel
theorem dX8_put_43 : decode cX8_put 43 = .ok (.lload_n 1, 1) := by decide +kernel
theorem dX8_put_44 : decode cX8_put 44 = .ok (.iload 4, 2) := by decide +kernel
theorem dX8_put_46 : decode cX8_put 46 = .ok (.invokestatic 233, 3) := by decide +kernel
theorem dX8_put_49 : decode cX8_put 49 = .ok (.invokevirtual 237, 3) := by decide +kernel
theorem dX8_put_52 : decode cX8_put 52 = .ok (.iinc 4 (-1), 3) := by decide +kernel
theorem dX8_put_55 : decode cX8_put 55 = .ok (.goto (-21), 3) := by decide +kernel
theorem dX8_put_58 : decode cX8_put 58 = .ok (.aload_n 0, 1) := by decide +kernel
theorem dX8_put_59 : decode cX8_put 59 = .ok (.getfield 33, 3) := by decide +kernel
theorem dX8_put_62 : decode cX8_put 62 = .ok (.getfield 197, 3) := by decide +kernel
theorem dX8_put_65 : decode cX8_put 65 = .ok (.ireturn, 1) := by decide +kernel
theorem dX8_wipe_0 : decode cX8_wipe 0 = .ok (.aload_n 0, 1) := by decide +kernel
theorem dX8_wipe_1 : decode cX8_wipe 1 = .ok (.getfield 33, 3) := by decide +kernel
theorem dX8_wipe_4 : decode cX8_wipe 4 = .ok (.getfield 197, 3) := by decide +kernel
theorem dX8_wipe_7 : decode cX8_wipe 7 = .ok (.istore_n 1, 1) := by decide +kernel
theorem dX8_wipe_8 : decode cX8_wipe 8 = .ok (.aload_n 0, 1) := by decide +kernel
theorem dX8_wipe_9 : decode cX8_wipe 9 = .ok (.getfield 33, 3) := by decide +kernel
theorem dX8_wipe_12 : decode cX8_wipe 12 = .ok (.iconst 0, 1) := by decide +kernel
theorem dX8_wipe_13 : decode cX8_wipe 13 = .ok (.putfield 197, 3) := by decide +kernel
theorem dX8_wipe_16 : decode cX8_wipe 16 = .ok (.iload_n 1, 1) := by decide +kernel
theorem dX8_wipe_17 : decode cX8_wipe 17 = .ok (.ireturn, 1) := by decide +kernel
theorem dX8_fault_0 : decode cX8_fault 0 = .ok (.aload_n 0, 1) := by decide +kernel
theorem dX8_fault_1 : decode cX8_fault 1 = .ok (.getfield 42, 3) := by decide +kernel
theorem dX8_fault_4 : decode cX8_fault 4 = .ok (.invokevirtual 240, 3) := by decide +kernel
theorem dX8_fault_7 : decode cX8_fault 7 = .ok (.ireturn, 1) := by decide +kernel
theorem dX8_carryOut_0 : decode cX8_carryOut 0 = .ok (.aload_n 0, 1) := by decide +kernel
theorem dX8_carryOut_1 : decode cX8_carryOut 1 = .ok (.getfield 42, 3) := by decide +kernel
theorem dX8_carryOut_4 : decode cX8_carryOut 4 = .ok (.invokevirtual 240, 3) := by decide +kernel
theorem dX8_carryOut_7 : decode cX8_carryOut 7 = .ok (.bipush (-6), 2) := by decide +kernel
theorem dX8_carryOut_9 : decode cX8_carryOut 9 = .ok (.if_icmp .eq 6, 3) := by decide +kernel
theorem dX8_carryOut_12 : decode cX8_carryOut 12 = .ok (.bipush (-3), 2) := by decide +kernel
theorem dX8_carryOut_14 : decode cX8_carryOut 14 = .ok (.ireturn, 1) := by decide +kernel
theorem dX8_carryOut_15 : decode cX8_carryOut 15 = .ok (.aload_n 0, 1) := by decide +kernel
theorem dX8_carryOut_16 : decode cX8_carryOut 16 = .ok (.getfield 22, 3) := by decide +kernel
theorem dX8_carryOut_19 : decode cX8_carryOut 19 = .ok (.aload_n 0, 1) := by decide +kernel
theorem dX8_carryOut_20 : decode cX8_carryOut 20 = .ok (.getfield 10, 3) := by decide +kernel
theorem dX8_carryOut_23 : decode cX8_carryOut 23 = .ok (.invokevirtual 60, 3) := by decide +kernel
theorem dX8_carryOut_26 : decode cX8_carryOut 26 = .ok (.iconst 0, 1) := by decide +kernel
theorem dX8_carryOut_27 : decode cX8_carryOut 27 = .ok (.istore_n 1, 1) := by decide +kernel
theorem dX8_carryOut_28 : decode cX8_carryOut 28 = .ok (.aload_n 0, 1) := by decide +kernel
theorem dX8_carryOut_29 : decode cX8_carryOut 29 = .ok (.getfield 42, 3) := by decide +kernel
theorem dX8_carryOut_32 : decode cX8_carryOut 32 = .ok (.iconst 0, 1) := by decide +kernel
theorem dX8_carryOut_33 : decode cX8_carryOut 33 = .ok (.putfield 243, 3) := by decide +kernel
theorem dX8_carryOut_36 : decode cX8_carryOut 36 = .ok (.iload_n 1, 1) := by decide +kernel
theorem dX8_carryOut_37 : decode cX8_carryOut 37 = .ok (.bipush 80, 2) := by decide +kernel
theorem dX8_carryOut_39 : decode cX8_carryOut 39 = .ok (.if_icmp .ge 55, 3) := by decide +kernel
theorem dX8_carryOut_42 : decode cX8_carryOut 42 = .ok (.aload_n 0, 1) := by decide +kernel
theorem dX8_carryOut_43 : decode cX8_carryOut 43 = .ok (.getfield 42, 3) := by decide +kernel
theorem dX8_carryOut_46 : decode cX8_carryOut 46 = .ok (.invokevirtual 246, 3) := by decide +kernel
theorem dX8_carryOut_49 : decode cX8_carryOut 49 = .ok (.ifCond .eq 45, 3) := by decide +kernel
theorem dX8_carryOut_52 : decode cX8_carryOut 52 = .ok (.aload_n 0, 1) := by decide +kernel
theorem dX8_carryOut_53 : decode cX8_carryOut 53 = .ok (.aload_n 0, 1) := by decide +kernel
theorem dX8_carryOut_54 : decode cX8_carryOut 54 = .ok (.getfield 42, 3) := by decide +kernel
theorem dX8_carryOut_57 : decode cX8_carryOut 57 = .ok (.getfield 250, 3) := by decide +kernel
theorem dX8_carryOut_60 : decode cX8_carryOut 60 = .ok (.aload_n 0, 1) := by decide +kernel
theorem dX8_carryOut_61 : decode cX8_carryOut 61 = .ok (.getfield 42, 3) := by decide +kernel
theorem dX8_carryOut_64 : decode cX8_carryOut 64 = .ok (.getfield 253, 3) := by decide +kernel
theorem dX8_carryOut_67 : decode cX8_carryOut 67 = .ok (.aload_n 0, 1) := by decide +kernel
theorem dX8_carryOut_68 : decode cX8_carryOut 68 = .ok (.getfield 42, 3) := by decide +kernel
theorem dX8_carryOut_71 : decode cX8_carryOut 71 = .ok (.getfield 256, 3) := by decide +kernel
theorem dX8_carryOut_74 : decode cX8_carryOut 74 = .ok (.aload_n 0, 1) := by decide +kernel
theorem dX8_carryOut_75 : decode cX8_carryOut 75 = .ok (.getfield 42, 3) := by decide +kernel
theorem dX8_carryOut_78 : decode cX8_carryOut 78 = .ok (.getfield 259, 3) := by decide +kernel
theorem dX8_carryOut_81 : decode cX8_carryOut 81 = .ok (.iconst 0, 1) := by decide +kernel
theorem dX8_carryOut_82 : decode cX8_carryOut 82 = .ok (.invokevirtual 78, 3) := by decide +kernel
theorem dX8_carryOut_85 : decode cX8_carryOut 85 = .ok (.ifCond .lt 9, 3) := by decide +kernel
theorem dX8_carryOut_88 : decode cX8_carryOut 88 = .ok (.iinc 1 1, 3) := by decide +kernel
theorem dX8_carryOut_91 : decode cX8_carryOut 91 = .ok (.goto (-55), 3) := by decide +kernel
theorem dX8_carryOut_94 : decode cX8_carryOut 94 = .ok (.aload_n 0, 1) := by decide +kernel
theorem dX8_carryOut_95 : decode cX8_carryOut 95 = .ok (.getfield 33, 3) := by decide +kernel
theorem dX8_carryOut_98 : decode cX8_carryOut 98 = .ok (.iconst 0, 1) := by decide +kernel
theorem dX8_carryOut_99 : decode cX8_carryOut 99 = .ok (.putfield 197, 3) := by decide +kernel
theorem dX8_carryOut_102 : decode cX8_carryOut 102 = .ok (.iload_n 1, 1) := by decide +kernel
theorem dX8_carryOut_103 : decode cX8_carryOut 103 = .ok (.ireturn, 1) := by decide +kernel
theorem dX8_howManyCharacters_0 : decode cX8_howManyCharacters 0 = .ok (.iconst 0, 1) := by decide +kernel
theorem dX8_howManyCharacters_1 : decode cX8_howManyCharacters 1 = .ok (.istore_n 2, 1) := by decide +kernel
theorem dX8_howManyCharacters_2 : decode cX8_howManyCharacters 2 = .ok (.iload_n 2, 1) := by decide +kernel
theorem dX8_howManyCharacters_3 : decode cX8_howManyCharacters 3 = .ok (.bipush 8, 2) := by decide +kernel
theorem dX8_howManyCharacters_5 : decode cX8_howManyCharacters 5 = .ok (.if_icmp .ge 37, 3) := by decide +kernel
theorem dX8_howManyCharacters_8 : decode cX8_howManyCharacters 8 = .ok (.lload_n 0, 1) := by decide +kernel
theorem dX8_howManyCharacters_9 : decode cX8_howManyCharacters 9 = .ok (.iload_n 2, 1) := by decide +kernel
theorem dX8_howManyCharacters_10 : decode cX8_howManyCharacters 10 = .ok (.invokestatic 233, 3) := by decide +kernel
theorem dX8_howManyCharacters_13 : decode cX8_howManyCharacters 13 = .ok (.ifCond .eq 29, 3) := by decide +kernel
theorem dX8_howManyCharacters_16 : decode cX8_howManyCharacters 16 = .ok (.lload_n 0, 1) := by decide +kernel
theorem dX8_howManyCharacters_17 : decode cX8_howManyCharacters 17 = .ok (.iload_n 2, 1) := by decide +kernel
theorem dX8_howManyCharacters_18 : decode cX8_howManyCharacters 18 = .ok (.invokestatic 233, 3) := by decide +kernel
theorem dX8_howManyCharacters_21 : decode cX8_howManyCharacters 21 = .ok (.istore_n 3, 1) := by decide +kernel
theorem dX8_howManyCharacters_22 : decode cX8_howManyCharacters 22 = .ok (.iload_n 3, 1) := by decide +kernel
theorem dX8_howManyCharacters_23 : decode cX8_howManyCharacters 23 = .ok (.bipush 33, 2) := by decide +kernel
theorem dX8_howManyCharacters_25 : decode cX8_howManyCharacters 25 = .ok (.if_icmp .lt 9, 3) := by decide +kernel
theorem dX8_howManyCharacters_28 : decode cX8_howManyCharacters 28 = .ok (.iload_n 3, 1) := by decide +kernel
theorem dX8_howManyCharacters_29 : decode cX8_howManyCharacters 29 = .ok (.bipush 126, 2) := by decide +kernel
theorem dX8_howManyCharacters_31 : decode cX8_howManyCharacters 31 = .ok (.if_icmp .le 5, 3) := by decide +kernel
theorem dX8_howManyCharacters_34 : decode cX8_howManyCharacters 34 = .ok (.iconst 0, 1) := by decide +kernel
theorem dX8_howManyCharacters_35 : decode cX8_howManyCharacters 35 = .ok (.ireturn, 1) := by decide +kernel
theorem dX8_howManyCharacters_36 : decode cX8_howManyCharacters 36 = .ok (.iinc 2 1, 3) := by decide +kernel
theorem dX8_howManyCharacters_39 : decode cX8_howManyCharacters 39 = .ok (.goto (-37), 3) := by decide +kernel
theorem dX8_howManyCharacters_42 : decode cX8_howManyCharacters 42 = .ok (.iload_n 2, 1) := by decide +kernel
theorem dX8_howManyCharacters_43 : decode cX8_howManyCharacters 43 = .ok (.bipush 8, 2) := by decide +kernel
theorem dX8_howManyCharacters_45 : decode cX8_howManyCharacters 45 = .ok (.if_icmp .eq 14, 3) := by decide +kernel
theorem dX8_howManyCharacters_48 : decode cX8_howManyCharacters 48 = .ok (.lload_n 0, 1) := by decide +kernel
theorem dX8_howManyCharacters_49 : decode cX8_howManyCharacters 49 = .ok (.bipush 8, 2) := by decide +kernel
theorem dX8_howManyCharacters_51 : decode cX8_howManyCharacters 51 = .ok (.iload_n 2, 1) := by decide +kernel
theorem dX8_howManyCharacters_52 : decode cX8_howManyCharacters 52 = .ok (.imul, 1) := by decide +kernel
theorem dX8_howManyCharacters_53 : decode cX8_howManyCharacters 53 = .ok (.lushr, 1) := by decide +kernel
theorem dX8_howManyCharacters_54 : decode cX8_howManyCharacters 54 = .ok (.lconst 0, 1) := by decide +kernel
theorem dX8_howManyCharacters_55 : decode cX8_howManyCharacters 55 = .ok (.lcmp, 1) := by decide +kernel
theorem dX8_howManyCharacters_56 : decode cX8_howManyCharacters 56 = .ok (.ifCond .ne 7, 3) := by decide +kernel
theorem dX8_howManyCharacters_59 : decode cX8_howManyCharacters 59 = .ok (.iload_n 2, 1) := by decide +kernel
theorem dX8_howManyCharacters_60 : decode cX8_howManyCharacters 60 = .ok (.goto 4, 3) := by decide +kernel
theorem dX8_howManyCharacters_63 : decode cX8_howManyCharacters 63 = .ok (.iconst 0, 1) := by decide +kernel
theorem dX8_howManyCharacters_64 : decode cX8_howManyCharacters 64 = .ok (.ireturn, 1) := by decide +kernel
theorem dX8_codeAt_0 : decode cX8_codeAt 0 = .ok (.lload_n 0, 1) := by decide +kernel
theorem dX8_codeAt_1 : decode cX8_codeAt 1 = .ok (.bipush 8, 2) := by decide +kernel
theorem dX8_codeAt_3 : decode cX8_codeAt 3 = .ok (.iload_n 2, 1) := by decide +kernel
theorem dX8_codeAt_4 : decode cX8_codeAt 4 = .ok (.imul, 1) := by decide +kernel
theorem dX8_codeAt_5 : decode cX8_codeAt 5 = .ok (.lushr, 1) := by decide +kernel
theorem dX8_codeAt_6 : decode cX8_codeAt 6 = .ok (.ldc2_w 262, 3) := by decide +kernel
theorem dX8_codeAt_9 : decode cX8_codeAt 9 = .ok (.land, 1) := by decide +kernel
theorem dX8_codeAt_10 : decode cX8_codeAt 10 = .ok (.l2i, 1) := by decide +kernel
theorem dX8_codeAt_11 : decode cX8_codeAt 11 = .ok (.ireturn, 1) := by decide +kernel
theorem dX8_undo_0 : decode cX8_undo 0 = .ok (.aload_n 0, 1) := by decide +kernel
theorem dX8_undo_1 : decode cX8_undo 1 = .ok (.getfield 22, 3) := by decide +kernel
theorem dX8_undo_4 : decode cX8_undo 4 = .ok (.aload_n 0, 1) := by decide +kernel
theorem dX8_undo_5 : decode cX8_undo 5 = .ok (.getfield 10, 3) := by decide +kernel
theorem dX8_undo_8 : decode cX8_undo 8 = .ok (.invokevirtual 264, 3) := by decide +kernel
theorem dX8_undo_11 : decode cX8_undo 11 = .ok (.ifCond .eq 13, 3) := by decide +kernel
theorem dX8_undo_14 : decode cX8_undo 14 = .ok (.aload_n 0, 1) := by decide +kernel
theorem dX8_undo_15 : decode cX8_undo 15 = .ok (.getfield 22, 3) := by decide +kernel
theorem dX8_undo_18 : decode cX8_undo 18 = .ok (.getfield 201, 3) := by decide +kernel
theorem dX8_undo_21 : decode cX8_undo 21 = .ok (.goto 5, 3) := by decide +kernel
theorem dX8_undo_24 : decode cX8_undo 24 = .ok (.bipush (-5), 2) := by decide +kernel
theorem dX8_undo_26 : decode cX8_undo 26 = .ok (.ireturn, 1) := by decide +kernel
theorem dX8_save_0 : decode cX8_save 0 = .ok (.iload_n 1, 1) := by decide +kernel
theorem dX8_save_1 : decode cX8_save 1 = .ok (.ifCond .lt 12, 3) := by decide +kernel
theorem dX8_save_4 : decode cX8_save 4 = .ok (.iload_n 1, 1) := by decide +kernel
theorem dX8_save_5 : decode cX8_save 5 = .ok (.aload_n 0, 1) := by decide +kernel
theorem dX8_save_6 : decode cX8_save 6 = .ok (.getfield 26, 3) := by decide +kernel
theorem dX8_save_9 : decode cX8_save 9 = .ok (.arraylength, 1) := by decide +kernel
theorem dX8_save_10 : decode cX8_save 10 = .ok (.if_icmp .lt 6, 3) := by decide +kernel
theorem dX8_save_13 : decode cX8_save 13 = .ok (.bipush (-2), 2) := by decide +kernel
theorem dX8_save_15 : decode cX8_save 15 = .ok (.ireturn, 1) := by decide +kernel
theorem dX8_save_16 : decode cX8_save 16 = .ok (.aload_n 0, 1) := by decide +kernel
theorem dX8_save_17 : decode cX8_save 17 = .ok (.getfield 26, 3) := by decide +kernel
theorem dX8_save_20 : decode cX8_save 20 = .ok (.iload_n 1, 1) := by decide +kernel
theorem dX8_save_21 : decode cX8_save 21 = .ok (.aaload, 1) := by decide +kernel
theorem dX8_save_22 : decode cX8_save 22 = .ok (.astore_n 2, 1) := by decide +kernel
theorem dX8_save_23 : decode cX8_save 23 = .ok (.aload_n 2, 1) := by decide +kernel
theorem dX8_save_24 : decode cX8_save 24 = .ok (.ifnonnull 18, 3) := by decide +kernel
theorem dX8_save_27 : decode cX8_save 27 = .ok (.new 7, 3) := by decide +kernel
theorem dX8_save_30 : decode cX8_save 30 = .ok (.dup, 1) := by decide +kernel
theorem dX8_save_31 : decode cX8_save 31 = .ok (.invokespecial 9, 3) := by decide +kernel
theorem dX8_save_34 : decode cX8_save 34 = .ok (.astore_n 2, 1) := by decide +kernel
theorem dX8_save_35 : decode cX8_save 35 = .ok (.aload_n 0, 1) := by decide +kernel
theorem dX8_save_36 : decode cX8_save 36 = .ok (.getfield 26, 3) := by decide +kernel
theorem dX8_save_39 : decode cX8_save 39 = .ok (.iload_n 1, 1) := by decide +kernel
theorem dX8_save_40 : decode cX8_save 40 = .ok (.aload_n 2, 1) := by decide +kernel
theorem dX8_save_41 : decode cX8_save 41 = .ok (.aastore, 1) := by decide +kernel
theorem dX8_save_42 : decode cX8_save 42 = .ok (.aload_n 2, 1) := by decide +kernel
theorem dX8_save_43 : decode cX8_save 43 = .ok (.aload_n 0, 1) := by decide +kernel
theorem dX8_save_44 : decode cX8_save 44 = .ok (.getfield 10, 3) := by decide +kernel
theorem dX8_save_47 : decode cX8_save 47 = .ok (.invokevirtual 268, 3) := by decide +kernel
theorem dX8_save_50 : decode cX8_save 50 = .ok (.aload_n 0, 1) := by decide +kernel
theorem dX8_save_51 : decode cX8_save 51 = .ok (.getfield 10, 3) := by decide +kernel
theorem dX8_save_54 : decode cX8_save 54 = .ok (.getfield 185, 3) := by decide +kernel
theorem dX8_save_57 : decode cX8_save 57 = .ok (.iconst 0, 1) := by decide +kernel
theorem dX8_save_58 : decode cX8_save 58 = .ok (.invokevirtual 68, 3) := by decide +kernel
theorem dX8_save_61 : decode cX8_save 61 = .ok (.ireturn, 1) := by decide +kernel
theorem dX8_restore_0 : decode cX8_restore 0 = .ok (.iload_n 1, 1) := by decide +kernel
theorem dX8_restore_1 : decode cX8_restore 1 = .ok (.ifCond .lt 12, 3) := by decide +kernel
theorem dX8_restore_4 : decode cX8_restore 4 = .ok (.iload_n 1, 1) := by decide +kernel
theorem dX8_restore_5 : decode cX8_restore 5 = .ok (.aload_n 0, 1) := by decide +kernel
theorem dX8_restore_6 : decode cX8_restore 6 = .ok (.getfield 26, 3) := by decide +kernel
theorem dX8_restore_9 : decode cX8_restore 9 = .ok (.arraylength, 1) := by decide +kernel
theorem dX8_restore_10 : decode cX8_restore 10 = .ok (.if_icmp .lt 6, 3) := by decide +kernel
theorem dX8_restore_13 : decode cX8_restore 13 = .ok (.bipush (-2), 2) := by decide +kernel
theorem dX8_restore_15 : decode cX8_restore 15 = .ok (.ireturn, 1) := by decide +kernel
theorem dX8_restore_16 : decode cX8_restore 16 = .ok (.aload_n 0, 1) := by decide +kernel
theorem dX8_restore_17 : decode cX8_restore 17 = .ok (.getfield 26, 3) := by decide +kernel
theorem dX8_restore_20 : decode cX8_restore 20 = .ok (.iload_n 1, 1) := by decide +kernel
theorem dX8_restore_21 : decode cX8_restore 21 = .ok (.aaload, 1) := by decide +kernel
theorem dX8_restore_22 : decode cX8_restore 22 = .ok (.astore_n 2, 1) := by decide +kernel
theorem dX8_restore_23 : decode cX8_restore 23 = .ok (.aload_n 2, 1) := by decide +kernel
theorem dX8_restore_24 : decode cX8_restore 24 = .ok (.ifnonnull 6, 3) := by decide +kernel
theorem dX8_restore_27 : decode cX8_restore 27 = .ok (.bipush (-5), 2) := by decide +kernel
theorem dX8_restore_29 : decode cX8_restore 29 = .ok (.ireturn, 1) := by decide +kernel
theorem dX8_restore_30 : decode cX8_restore 30 = .ok (.aload_n 0, 1) := by decide +kernel
theorem dX8_restore_31 : decode cX8_restore 31 = .ok (.getfield 22, 3) := by decide +kernel
theorem dX8_restore_34 : decode cX8_restore 34 = .ok (.aload_n 0, 1) := by decide +kernel
theorem dX8_restore_35 : decode cX8_restore 35 = .ok (.getfield 10, 3) := by decide +kernel
theorem dX8_restore_38 : decode cX8_restore 38 = .ok (.invokevirtual 60, 3) := by decide +kernel
theorem dX8_restore_41 : decode cX8_restore 41 = .ok (.aload_n 0, 1) := by decide +kernel
theorem dX8_restore_42 : decode cX8_restore 42 = .ok (.getfield 10, 3) := by decide +kernel
theorem dX8_restore_45 : decode cX8_restore 45 = .ok (.aload_n 2, 1) := by decide +kernel
theorem dX8_restore_46 : decode cX8_restore 46 = .ok (.invokevirtual 268, 3) := by decide +kernel
theorem dX8_restore_49 : decode cX8_restore 49 = .ok (.aload_n 0, 1) := by decide +kernel
theorem dX8_restore_50 : decode cX8_restore 50 = .ok (.getfield 10, 3) := by decide +kernel
theorem dX8_restore_53 : decode cX8_restore 53 = .ok (.getfield 185, 3) := by decide +kernel
theorem dX8_restore_56 : decode cX8_restore 56 = .ok (.iconst 0, 1) := by decide +kernel
theorem dX8_restore_57 : decode cX8_restore 57 = .ok (.invokevirtual 68, 3) := by decide +kernel
theorem dX8_restore_60 : decode cX8_restore 60 = .ok (.ireturn, 1) := by decide +kernel
theorem dX8_isReader_0 : decode cX8_isReader 0 = .ok (.iload_n 0, 1) := by decide +kernel
theorem dX8_isReader_1 : decode cX8_isReader 1 = .ok (.ifCond .lt 13, 3) := by decide +kernel
theorem dX8_isReader_4 : decode cX8_isReader 4 = .ok (.iload_n 0, 1) := by decide +kernel
theorem dX8_isReader_5 : decode cX8_isReader 5 = .ok (.bipush 16, 2) := by decide +kernel
theorem dX8_isReader_7 : decode cX8_isReader 7 = .ok (.if_icmp .ge 7, 3) := by decide +kernel
theorem dX8_isReader_10 : decode cX8_isReader 10 = .ok (.iconst 1, 1) := by decide +kernel
theorem dX8_isReader_11 : decode cX8_isReader 11 = .ok (.goto 4, 3) := by decide +kernel
theorem dX8_isReader_14 : decode cX8_isReader 14 = .ok (.iconst 0, 1) := by decide +kernel
theorem dX8_isReader_15 : decode cX8_isReader 15 = .ok (.ireturn, 1) := by decide +kernel
theorem dX8_isNote_0 : decode cX8_isNote 0 = .ok (.iload_n 0, 1) := by decide +kernel
theorem dX8_isNote_1 : decode cX8_isNote 1 = .ok (.ifCond .lt 13, 3) := by decide +kernel
theorem dX8_isNote_4 : decode cX8_isNote 4 = .ok (.iload_n 0, 1) := by decide +kernel
theorem dX8_isNote_5 : decode cX8_isNote 5 = .ok (.bipush 24, 2) := by decide +kernel
theorem dX8_isNote_7 : decode cX8_isNote 7 = .ok (.if_icmp .ge 7, 3) := by decide +kernel
theorem dX8_isNote_10 : decode cX8_isNote 10 = .ok (.iconst 1, 1) := by decide +kernel
theorem dX8_isNote_11 : decode cX8_isNote 11 = .ok (.goto 4, 3) := by decide +kernel
theorem dX8_isNote_14 : decode cX8_isNote 14 = .ok (.iconst 0, 1) := by decide +kernel
theorem dX8_isNote_15 : decode cX8_isNote 15 = .ok (.ireturn, 1) := by decide +kernel
theorem dX8_isValueOf_0 : decode cX8_isValueOf 0 = .ok (.iload_n 0, 1) := by decide +kernel
theorem dX8_isValueOf_1 : decode cX8_isValueOf 1 = .ok (.ifCond .lt 41, 3) := by decide +kernel
theorem dX8_isValueOf_4 : decode cX8_isValueOf 4 = .ok (.iload_n 0, 1) := by decide +kernel
theorem dX8_isValueOf_5 : decode cX8_isValueOf 5 = .ok (.getstatic 218, 3) := by decide +kernel
theorem dX8_isValueOf_8 : decode cX8_isValueOf 8 = .ok (.arraylength, 1) := by decide +kernel
theorem dX8_isValueOf_9 : decode cX8_isValueOf 9 = .ok (.if_icmp .ge 33, 3) := by decide +kernel
theorem dX8_isValueOf_12 : decode cX8_isValueOf 12 = .ok (.iload_n 0, 1) := by decide +kernel
theorem dX8_isValueOf_13 : decode cX8_isValueOf 13 = .ok (.getstatic 222, 3) := by decide +kernel
theorem dX8_isValueOf_16 : decode cX8_isValueOf 16 = .ok (.arraylength, 1) := by decide +kernel
theorem dX8_isValueOf_17 : decode cX8_isValueOf 17 = .ok (.if_icmp .ge 25, 3) := by decide +kernel
theorem dX8_isValueOf_20 : decode cX8_isValueOf 20 = .ok (.iload_n 1, 1) := by decide +kernel
theorem dX8_isValueOf_21 : decode cX8_isValueOf 21 = .ok (.getstatic 218, 3) := by decide +kernel
theorem dX8_isValueOf_24 : decode cX8_isValueOf 24 = .ok (.iload_n 0, 1) := by decide +kernel
theorem dX8_isValueOf_25 : decode cX8_isValueOf 25 = .ok (.iaload, 1) := by decide +kernel
theorem dX8_isValueOf_26 : decode cX8_isValueOf 26 = .ok (.if_icmp .lt 16, 3) := by decide +kernel
theorem dX8_isValueOf_29 : decode cX8_isValueOf 29 = .ok (.iload_n 1, 1) := by decide +kernel
theorem dX8_isValueOf_30 : decode cX8_isValueOf 30 = .ok (.getstatic 222, 3) := by decide +kernel
theorem dX8_isValueOf_33 : decode cX8_isValueOf 33 = .ok (.iload_n 0, 1) := by decide +kernel
theorem dX8_isValueOf_34 : decode cX8_isValueOf 34 = .ok (.iaload, 1) := by decide +kernel
theorem dX8_isValueOf_35 : decode cX8_isValueOf 35 = .ok (.if_icmp .gt 7, 3) := by decide +kernel
theorem dX8_isValueOf_38 : decode cX8_isValueOf 38 = .ok (.iconst 1, 1) := by decide +kernel
theorem dX8_isValueOf_39 : decode cX8_isValueOf 39 = .ok (.goto 4, 3) := by decide +kernel
theorem dX8_isValueOf_42 : decode cX8_isValueOf 42 = .ok (.iconst 0, 1) := by decide +kernel
theorem dX8_isValueOf_43 : decode cX8_isValueOf 43 = .ok (.ireturn, 1) := by decide +kernel
theorem dX8_groupOf_0 : decode cX8_groupOf 0 = .ok (.iload_n 1, 1) := by decide +kernel
theorem dX8_groupOf_1 : decode cX8_groupOf 1 = .ok (.ifCond .le 9, 3) := by decide +kernel
theorem dX8_groupOf_4 : decode cX8_groupOf 4 = .ok (.iload_n 0, 1) := by decide +kernel
theorem dX8_groupOf_5 : decode cX8_groupOf 5 = .ok (.iload_n 1, 1) := by decide +kernel
theorem dX8_groupOf_6 : decode cX8_groupOf 6 = .ok (.idiv, 1) := by decide +kernel
theorem dX8_groupOf_7 : decode cX8_groupOf 7 = .ok (.goto 4, 3) := by decide +kernel
theorem dX8_groupOf_10 : decode cX8_groupOf 10 = .ok (.iconst 0, 1) := by decide +kernel
theorem dX8_groupOf_11 : decode cX8_groupOf 11 = .ok (.ireturn, 1) := by decide +kernel
theorem dX8_only_0 : decode cX8_only 0 = .ok (.iconst 1, 1) := by decide +kernel
theorem dX8_only_1 : decode cX8_only 1 = .ok (.iload_n 0, 1) := by decide +kernel
theorem dX8_only_2 : decode cX8_only 2 = .ok (.ishl, 1) := by decide +kernel
theorem dX8_only_3 : decode cX8_only 3 = .ok (.ireturn, 1) := by decide +kernel
theorem dX8_isIn_0 : decode cX8_isIn 0 = .ok (.iload_n 1, 1) := by decide +kernel
theorem dX8_isIn_1 : decode cX8_isIn 1 = .ok (.iload_n 0, 1) := by decide +kernel
theorem dX8_isIn_2 : decode cX8_isIn 2 = .ok (.ishr, 1) := by decide +kernel
theorem dX8_isIn_3 : decode cX8_isIn 3 = .ok (.iconst 1, 1) := by decide +kernel
theorem dX8_isIn_4 : decode cX8_isIn 4 = .ok (.iand, 1) := by decide +kernel
theorem dX8_isIn_5 : decode cX8_isIn 5 = .ok (.ifCond .eq 7, 3) := by decide +kernel
theorem dX8_isIn_8 : decode cX8_isIn 8 = .ok (.iconst 1, 1) := by decide +kernel
theorem dX8_isIn_9 : decode cX8_isIn 9 = .ok (.goto 4, 3) := by decide +kernel
theorem dX8_isIn_12 : decode cX8_isIn 12 = .ok (.iconst 0, 1) := by decide +kernel
theorem dX8_isIn_13 : decode cX8_isIn 13 = .ok (.ireturn, 1) := by decide +kernel
theorem dX9_init_0 : decode cX9_init 0 = .ok (.aload_n 0, 1) := by decide +kernel
theorem dX9_init_1 : decode cX9_init 1 = .ok (.invokespecial 1, 3) := by decide +kernel
theorem dX9_init_4 : decode cX9_init 4 = .ok (.aload_n 0, 1) := by decide +kernel
theorem dX9_init_5 : decode cX9_init 5 = .ok (.sipush 652, 3) := by decide +kernel
theorem dX9_init_8 : decode cX9_init 8 = .ok (.newarray .int, 2) := by decide +kernel
theorem dX9_init_10 : decode cX9_init 10 = .ok (.putfield 7, 3) := by decide +kernel
theorem dX9_init_13 : decode cX9_init 13 = .ok (.aload_n 0, 1) := by decide +kernel
theorem dX9_init_14 : decode cX9_init 14 = .ok (.sipush 3912, 3) := by decide +kernel
theorem dX9_init_17 : decode cX9_init 17 = .ok (.newarray .int, 2) := by decide +kernel
theorem dX9_init_19 : decode cX9_init 19 = .ok (.putfield 13, 3) := by decide +kernel
theorem dX9_init_22 : decode cX9_init 22 = .ok (.aload_n 0, 1) := by decide +kernel
theorem dX9_init_23 : decode cX9_init 23 = .ok (.sipush 1304, 3) := by decide +kernel
theorem dX9_init_26 : decode cX9_init 26 = .ok (.newarray .int, 2) := by decide +kernel
theorem dX9_init_28 : decode cX9_init 28 = .ok (.putfield 16, 3) := by decide +kernel
theorem dX9_init_31 : decode cX9_init 31 = .ok (.aload_n 0, 1) := by decide +kernel
theorem dX9_init_32 : decode cX9_init 32 = .ok (.iconst 2, 1) := by decide +kernel
theorem dX9_init_33 : decode cX9_init 33 = .ok (.newarray .boolean, 2) := by decide +kernel
theorem dX9_init_35 : decode cX9_init 35 = .ok (.putfield 19, 3) := by decide +kernel
theorem dX9_init_38 : decode cX9_init 38 = .ok (.aload_n 0, 1) := by decide +kernel
theorem dX9_init_39 : decode cX9_init 39 = .ok (.sipush 652, 3) := by decide +kernel
theorem dX9_init_42 : decode cX9_init 42 = .ok (.newarray .int, 2) := by decide +kernel
theorem dX9_init_44 : decode cX9_init 44 = .ok (.putfield 23, 3) := by decide +kernel
theorem dX9_init_47 : decode cX9_init 47 = .ok (.aload_n 0, 1) := by decide +kernel
theorem dX9_init_48 : decode cX9_init 48 = .ok (.bipush 80, 2) := by decide +kernel
theorem dX9_init_50 : decode cX9_init 50 = .ok (.newarray .int, 2) := by decide +kernel
theorem dX9_init_52 : decode cX9_init 52 = .ok (.putfield 26, 3) := by decide +kernel
theorem dX9_init_55 : decode cX9_init 55 = .ok (.aload_n 0, 1) := by decide +kernel
theorem dX9_init_56 : decode cX9_init 56 = .ok (.bipush 29, 2) := by decide +kernel
theorem dX9_init_58 : decode cX9_init 58 = .ok (.newarray .int, 2) := by decide +kernel
theorem dX9_init_60 : decode cX9_init 60 = .ok (.putfield 29, 3) := by decide +kernel
theorem dX9_init_63 : decode cX9_init 63 = .ok (.aload_n 0, 1) := by decide +kernel
theorem dX9_init_64 : decode cX9_init 64 = .ok (.bipush 87, 2) := by decide +kernel
theorem dX9_init_66 : decode cX9_init 66 = .ok (.newarray .int, 2) := by decide +kernel
theorem dX9_init_68 : decode cX9_init 68 = .ok (.putfield 32, 3) := by decide +kernel
theorem dX9_init_71 : decode cX9_init 71 = .ok (.aload_n 0, 1) := by decide +kernel
theorem dX9_init_72 : decode cX9_init 72 = .ok (.getfield 7, 3) := by decide +kernel
theorem dX9_init_75 : decode cX9_init 75 = .ok (.iconst 0, 1) := by decide +kernel
theorem dX9_init_76 : decode cX9_init 76 = .ok (.iconst 2, 1) := by decide +kernel
theorem dX9_init_77 : decode cX9_init 77 = .ok (.iastore, 1) := by decide +kernel
theorem dX9_init_78 : decode cX9_init 78 = .ok (.aload_n 0, 1) := by decide +kernel
theorem dX9_init_79 : decode cX9_init 79 = .ok (.getfield 7, 3) := by decide +kernel
theorem dX9_init_82 : decode cX9_init 82 = .ok (.iconst 1, 1) := by decide +kernel
theorem dX9_init_83 : decode cX9_init 83 = .ok (.iconst 4, 1) := by decide +kernel
theorem dX9_init_84 : decode cX9_init 84 = .ok (.iastore, 1) := by decide +kernel
theorem dX9_init_85 : decode cX9_init 85 = .ok (.aload_n 0, 1) := by decide +kernel
theorem dX9_init_86 : decode cX9_init 86 = .ok (.getfield 7, 3) := by decide +kernel
theorem dX9_init_89 : decode cX9_init 89 = .ok (.iconst 2, 1) := by decide +kernel
theorem dX9_init_90 : decode cX9_init 90 = .ok (.iconst 3, 1) := by decide +kernel
theorem dX9_init_91 : decode cX9_init 91 = .ok (.iastore, 1) := by decide +kernel
theorem dX9_init_92 : decode cX9_init 92 = .ok (.return_, 1) := by decide +kernel
theorem dX9_in_0 : decode cX9_in 0 = .ok (.iload_n 0, 1) := by decide +kernel
theorem dX9_in_1 : decode cX9_in 1 = .ok (.iload_n 1, 1) := by decide +kernel
theorem dX9_in_2 : decode cX9_in 2 = .ok (.if_icmp .lt 12, 3) := by decide +kernel
theorem dX9_in_5 : decode cX9_in 5 = .ok (.iload_n 0, 1) := by decide +kernel
theorem dX9_in_6 : decode cX9_in 6 = .ok (.iload_n 2, 1) := by decide +kernel
theorem dX9_in_7 : decode cX9_in 7 = .ok (.if_icmp .gt 7, 3) := by decide +kernel
theorem dX9_in_10 : decode cX9_in 10 = .ok (.iconst 1, 1) := by decide +kernel
theorem dX9_in_11 : decode cX9_in 11 = .ok (.goto 4, 3) := by decide +kernel
theorem dX9_in_14 : decode cX9_in 14 = .ok (.iconst 0, 1) := by decide +kernel
theorem dX9_in_15 : decode cX9_in 15 = .ok (.ireturn, 1) := by decide +kernel
theorem dX9_has_0 : decode cX9_has 0 = .ok (.iload_n 0, 1) := by decide +kernel
theorem dX9_has_1 : decode cX9_has 1 = .ok (.iload_n 1, 1) := by decide +kernel
theorem dX9_has_2 : decode cX9_has 2 = .ok (.ishr, 1) := by decide +kernel
theorem dX9_has_3 : decode cX9_has 3 = .ok (.iconst 1, 1) := by decide +kernel
theorem dX9_has_4 : decode cX9_has 4 = .ok (.iand, 1) := by decide +kernel
theorem dX9_has_5 : decode cX9_has 5 = .ok (.iconst 1, 1) := by decide +kernel
theorem dX9_has_6 : decode cX9_has 6 = .ok (.if_icmp .ne 7, 3) := by decide +kernel
theorem dX9_has_9 : decode cX9_has 9 = .ok (.iconst 1, 1) := by decide +kernel
theorem dX9_has_10 : decode cX9_has 10 = .ok (.goto 4, 3) := by decide +kernel
theorem dX9_has_13 : decode cX9_has 13 = .ok (.iconst 0, 1) := by decide +kernel
theorem dX9_has_14 : decode cX9_has 14 = .ok (.ireturn, 1) := by decide +kernel
theorem dX9_many_0 : decode cX9_many 0 = .ok (.iconst 0, 1) := by decide +kernel
theorem dX9_many_1 : decode cX9_many 1 = .ok (.istore_n 1, 1) := by decide +kernel
theorem dX9_many_2 : decode cX9_many 2 = .ok (.iconst 0, 1) := by decide +kernel
theorem dX9_many_3 : decode cX9_many 3 = .ok (.istore_n 2, 1) := by decide +kernel
theorem dX9_many_4 : decode cX9_many 4 = .ok (.iload_n 2, 1) := by decide +kernel
theorem dX9_many_5 : decode cX9_many 5 = .ok (.bipush 24, 2) := by decide +kernel
theorem dX9_many_7 : decode cX9_many 7 = .ok (.if_icmp .ge 17, 3) := by decide +kernel
theorem dX9_many_10 : decode cX9_many 10 = .ok (.iload_n 1, 1) := by decide +kernel
theorem dX9_many_11 : decode cX9_many 11 = .ok (.iload_n 0, 1) := by decide +kernel
theorem dX9_many_12 : decode cX9_many 12 = .ok (.iload_n 2, 1) := by decide +kernel
theorem dX9_many_13 : decode cX9_many 13 = .ok (.ishr, 1) := by decide +kernel
theorem dX9_many_14 : decode cX9_many 14 = .ok (.iconst 1, 1) := by decide +kernel
theorem dX9_many_15 : decode cX9_many 15 = .ok (.iand, 1) := by decide +kernel
theorem dX9_many_16 : decode cX9_many 16 = .ok (.iadd, 1) := by decide +kernel
theorem dX9_many_17 : decode cX9_many 17 = .ok (.istore_n 1, 1) := by decide +kernel
theorem dX9_many_18 : decode cX9_many 18 = .ok (.iinc 2 1, 3) := by decide +kernel
theorem dX9_many_21 : decode cX9_many 21 = .ok (.goto (-17), 3) := by decide +kernel
theorem dX9_many_24 : decode cX9_many 24 = .ok (.iload_n 1, 1) := by decide +kernel
theorem dX9_many_25 : decode cX9_many 25 = .ok (.ireturn, 1) := by decide +kernel
theorem dX9_isReader_0 : decode cX9_isReader 0 = .ok (.iload_n 0, 1) := by decide +kernel
theorem dX9_isReader_1 : decode cX9_isReader 1 = .ok (.iconst 0, 1) := by decide +kernel
theorem dX9_isReader_2 : decode cX9_isReader 2 = .ok (.bipush 15, 2) := by decide +kernel
theorem dX9_isReader_4 : decode cX9_isReader 4 = .ok (.invokestatic 35, 3) := by decide +kernel
theorem dX9_isReader_7 : decode cX9_isReader 7 = .ok (.ireturn, 1) := by decide +kernel
theorem dX9_isNote_0 : decode cX9_isNote 0 = .ok (.iload_n 0, 1) := by decide +kernel
theorem dX9_isNote_1 : decode cX9_isNote 1 = .ok (.iconst 0, 1) := by decide +kernel
theorem dX9_isNote_2 : decode cX9_isNote 2 = .ok (.bipush 23, 2) := by decide +kernel
theorem dX9_isNote_4 : decode cX9_isNote 4 = .ok (.invokestatic 35, 3) := by decide +kernel
theorem dX9_isNote_7 : decode cX9_isNote 7 = .ok (.ireturn, 1) := by decide +kernel
theorem dX9_ofN_0 : decode cX9_ofN 0 = .ok (.aload_n 0, 1) := by decide +kernel
theorem dX9_ofN_1 : decode cX9_ofN 1 = .ok (.getfield 7, 3) := by decide +kernel
theorem dX9_ofN_4 : decode cX9_ofN 4 = .ok (.bipush 8, 2) := by decide +kernel
theorem dX9_ofN_6 : decode cX9_ofN 6 = .ok (.iconst 5, 1) := by decide +kernel
theorem dX9_ofN_7 : decode cX9_ofN 7 = .ok (.iload_n 1, 1) := by decide +kernel
theorem dX9_ofN_8 : decode cX9_ofN 8 = .ok (.imul, 1) := by decide +kernel
theorem dX9_ofN_9 : decode cX9_ofN 9 = .ok (.iadd, 1) := by decide +kernel
theorem dX9_ofN_10 : decode cX9_ofN 10 = .ok (.iload_n 2, 1) := by decide +kernel
theorem dX9_ofN_11 : decode cX9_ofN 11 = .ok (.iadd, 1) := by decide +kernel
theorem dX9_ofN_12 : decode cX9_ofN 12 = .ok (.iaload, 1) := by decide +kernel
theorem dX9_ofN_13 : decode cX9_ofN 13 = .ok (.ireturn, 1) := by decide +kernel
end
section
theorem dX9_layN_0 : decode cX9_layN 0 = .ok (.aload_n 0, 1) := by decide +kernel
theorem dX9_layN_1 : decode cX9_layN 1 = .ok (.getfield 7, 3) := by decide +kernel
theorem dX9_layN_4 : decode cX9_layN 4 = .ok (.bipush 8, 2) := by decide +kernel
theorem dX9_layN_6 : decode cX9_layN 6 = .ok (.iconst 5, 1) := by decide +kernel
theorem dX9_layN_7 : decode cX9_layN 7 = .ok (.iload_n 1, 1) := by decide +kernel
theorem dX9_layN_8 : decode cX9_layN 8 = .ok (.imul, 1) := by decide +kernel
theorem dX9_layN_9 : decode cX9_layN 9 = .ok (.iadd, 1) := by decide +kernel
theorem dX9_layN_10 : decode cX9_layN 10 = .ok (.iload_n 2, 1) := by decide +kernel
theorem dX9_layN_11 : decode cX9_layN 11 = .ok (.iadd, 1) := by decide +kernel
theorem dX9_layN_12 : decode cX9_layN 12 = .ok (.iload_n 3, 1) := by decide +kernel
theorem dX9_layN_13 : decode cX9_layN 13 = .ok (.iastore, 1) := by decide +kernel
theorem dX9_layN_14 : decode cX9_layN 14 = .ok (.return_, 1) := by decide +kernel
theorem dX9_ofR_0 : decode cX9_ofR 0 = .ok (.aload_n 0, 1) := by decide +kernel
theorem dX9_ofR_1 : decode cX9_ofR 1 = .ok (.getfield 7, 3) := by decide +kernel
theorem dX9_ofR_4 : decode cX9_ofR 4 = .ok (.sipush 128, 3) := by decide +kernel
theorem dX9_ofR_7 : decode cX9_ofR 7 = .ok (.iconst 5, 1) := by decide +kernel
theorem dX9_ofR_8 : decode cX9_ofR 8 = .ok (.iload_n 1, 1) := by decide +kernel
theorem dX9_ofR_9 : decode cX9_ofR 9 = .ok (.imul, 1) := by decide +kernel
theorem dX9_ofR_10 : decode cX9_ofR 10 = .ok (.iadd, 1) := by decide +kernel
theorem dX9_ofR_11 : decode cX9_ofR 11 = .ok (.iload_n 2, 1) := by decide +kernel
theorem dX9_ofR_12 : decode cX9_ofR 12 = .ok (.iadd, 1) := by decide +kernel
theorem dX9_ofR_13 : decode cX9_ofR 13 = .ok (.iaload, 1) := by decide +kernel
theorem dX9_ofR_14 : decode cX9_ofR 14 = .ok (.ireturn, 1) := by decide +kernel
theorem dX9_moreR_0 : decode cX9_moreR 0 = .ok (.aload_n 0, 1) := by decide +kernel
theorem dX9_moreR_1 : decode cX9_moreR 1 = .ok (.getfield 7, 3) := by decide +kernel
theorem dX9_moreR_4 : decode cX9_moreR 4 = .ok (.sipush 128, 3) := by decide +kernel
theorem dX9_moreR_7 : decode cX9_moreR 7 = .ok (.iconst 5, 1) := by decide +kernel
theorem dX9_moreR_8 : decode cX9_moreR 8 = .ok (.iload_n 1, 1) := by decide +kernel
theorem dX9_moreR_9 : decode cX9_moreR 9 = .ok (.imul, 1) := by decide +kernel
theorem dX9_moreR_10 : decode cX9_moreR 10 = .ok (.iadd, 1) := by decide +kernel
theorem dX9_moreR_11 : decode cX9_moreR 11 = .ok (.iload_n 2, 1) := by decide +kernel
theorem dX9_moreR_12 : decode cX9_moreR 12 = .ok (.iadd, 1) := by decide +kernel
theorem dX9_moreR_13 : decode cX9_moreR 13 = .ok (.dup2, 1) := by decide +kernel
theorem dX9_moreR_14 : decode cX9_moreR 14 = .ok (.iaload, 1) := by decide +kernel
theorem dX9_moreR_15 : decode cX9_moreR 15 = .ok (.iload_n 3, 1) := by decide +kernel
theorem dX9_moreR_16 : decode cX9_moreR 16 = .ok (.iadd, 1) := by decide +kernel
theorem dX9_moreR_17 : decode cX9_moreR 17 = .ok (.iastore, 1) := by decide +kernel
theorem dX9_moreR_18 : decode cX9_moreR 18 = .ok (.return_, 1) := by decide +kernel
theorem dX9_ofC_0 : decode cX9_ofC 0 = .ok (.aload_n 0, 1) := by decide +kernel
theorem dX9_ofC_1 : decode cX9_ofC 1 = .ok (.getfield 7, 3) := by decide +kernel
theorem dX9_ofC_4 : decode cX9_ofC 4 = .ok (.sipush 208, 3) := by decide +kernel
theorem dX9_ofC_7 : decode cX9_ofC 7 = .ok (.bipush 24, 2) := by decide +kernel
theorem dX9_ofC_9 : decode cX9_ofC 9 = .ok (.iload_n 1, 1) := by decide +kernel
theorem dX9_ofC_10 : decode cX9_ofC 10 = .ok (.imul, 1) := by decide +kernel
theorem dX9_ofC_11 : decode cX9_ofC 11 = .ok (.iadd, 1) := by decide +kernel
theorem dX9_ofC_12 : decode cX9_ofC 12 = .ok (.iconst 3, 1) := by decide +kernel
theorem dX9_ofC_13 : decode cX9_ofC 13 = .ok (.iload_n 2, 1) := by decide +kernel
theorem dX9_ofC_14 : decode cX9_ofC 14 = .ok (.imul, 1) := by decide +kernel
theorem dX9_ofC_15 : decode cX9_ofC 15 = .ok (.iadd, 1) := by decide +kernel
theorem dX9_ofC_16 : decode cX9_ofC 16 = .ok (.iload_n 3, 1) := by decide +kernel
theorem dX9_ofC_17 : decode cX9_ofC 17 = .ok (.iadd, 1) := by decide +kernel
theorem dX9_ofC_18 : decode cX9_ofC 18 = .ok (.iaload, 1) := by decide +kernel
theorem dX9_ofC_19 : decode cX9_ofC 19 = .ok (.ireturn, 1) := by decide +kernel
theorem dX9_layC_0 : decode cX9_layC 0 = .ok (.aload_n 0, 1) := by decide +kernel
theorem dX9_layC_1 : decode cX9_layC 1 = .ok (.getfield 7, 3) := by decide +kernel
theorem dX9_layC_4 : decode cX9_layC 4 = .ok (.sipush 208, 3) := by decide +kernel
theorem dX9_layC_7 : decode cX9_layC 7 = .ok (.bipush 24, 2) := by decide +kernel
theorem dX9_layC_9 : decode cX9_layC 9 = .ok (.iload_n 1, 1) := by decide +kernel
theorem dX9_layC_10 : decode cX9_layC 10 = .ok (.imul, 1) := by decide +kernel
theorem dX9_layC_11 : decode cX9_layC 11 = .ok (.iadd, 1) := by decide +kernel
theorem dX9_layC_12 : decode cX9_layC 12 = .ok (.iconst 3, 1) := by decide +kernel
theorem dX9_layC_13 : decode cX9_layC 13 = .ok (.iload_n 2, 1) := by decide +kernel
theorem dX9_layC_14 : decode cX9_layC 14 = .ok (.imul, 1) := by decide +kernel
theorem dX9_layC_15 : decode cX9_layC 15 = .ok (.iadd, 1) := by decide +kernel
theorem dX9_layC_16 : decode cX9_layC 16 = .ok (.iload_n 3, 1) := by decide +kernel
theorem dX9_layC_17 : decode cX9_layC 17 = .ok (.iadd, 1) := by decide +kernel
theorem dX9_layC_18 : decode cX9_layC 18 = .ok (.iload 4, 2) := by decide +kernel
theorem dX9_layC_20 : decode cX9_layC 20 = .ok (.iastore, 1) := by decide +kernel
theorem dX9_layC_21 : decode cX9_layC 21 = .ok (.return_, 1) := by decide +kernel
theorem dX9_keep_0 : decode cX9_keep 0 = .ok (.aload_n 0, 1) := by decide +kernel
theorem dX9_keep_1 : decode cX9_keep 1 = .ok (.getfield 39, 3) := by decide +kernel
theorem dX9_keep_4 : decode cX9_keep 4 = .ok (.bipush 6, 2) := by decide +kernel
theorem dX9_keep_6 : decode cX9_keep 6 = .ok (.if_icmp .ne 26, 3) := by decide +kernel
theorem dX9_keep_9 : decode cX9_keep 9 = .ok (.aload_n 0, 1) := by decide +kernel
theorem dX9_keep_10 : decode cX9_keep 10 = .ok (.aload_n 0, 1) := by decide +kernel
theorem dX9_keep_11 : decode cX9_keep 11 = .ok (.getfield 43, 3) := by decide +kernel
theorem dX9_keep_14 : decode cX9_keep 14 = .ok (.iconst 1, 1) := by decide +kernel
theorem dX9_keep_15 : decode cX9_keep 15 = .ok (.iadd, 1) := by decide +kernel
theorem dX9_keep_16 : decode cX9_keep 16 = .ok (.bipush 6, 2) := by decide +kernel
theorem dX9_keep_18 : decode cX9_keep 18 = .ok (.irem, 1) := by decide +kernel
theorem dX9_keep_19 : decode cX9_keep 19 = .ok (.putfield 43, 3) := by decide +kernel
theorem dX9_keep_22 : decode cX9_keep 22 = .ok (.aload_n 0, 1) := by decide +kernel
theorem dX9_keep_23 : decode cX9_keep 23 = .ok (.dup, 1) := by decide +kernel
theorem dX9_keep_24 : decode cX9_keep 24 = .ok (.getfield 39, 3) := by decide +kernel
theorem dX9_keep_27 : decode cX9_keep 27 = .ok (.iconst 1, 1) := by decide +kernel
theorem dX9_keep_28 : decode cX9_keep 28 = .ok (.isub, 1) := by decide +kernel
theorem dX9_keep_29 : decode cX9_keep 29 = .ok (.putfield 39, 3) := by decide +kernel
theorem dX9_keep_32 : decode cX9_keep 32 = .ok (.aload_n 0, 1) := by decide +kernel
theorem dX9_keep_33 : decode cX9_keep 33 = .ok (.getfield 43, 3) := by decide +kernel
theorem dX9_keep_36 : decode cX9_keep 36 = .ok (.aload_n 0, 1) := by decide +kernel
theorem dX9_keep_37 : decode cX9_keep 37 = .ok (.getfield 39, 3) := by decide +kernel
theorem dX9_keep_40 : decode cX9_keep 40 = .ok (.iadd, 1) := by decide +kernel
theorem dX9_keep_41 : decode cX9_keep 41 = .ok (.bipush 6, 2) := by decide +kernel
theorem dX9_keep_43 : decode cX9_keep 43 = .ok (.irem, 1) := by decide +kernel
theorem dX9_keep_44 : decode cX9_keep 44 = .ok (.istore_n 1, 1) := by decide +kernel
theorem dX9_keep_45 : decode cX9_keep 45 = .ok (.iconst 0, 1) := by decide +kernel
theorem dX9_keep_46 : decode cX9_keep 46 = .ok (.istore_n 2, 1) := by decide +kernel
theorem dX9_keep_47 : decode cX9_keep 47 = .ok (.iload_n 2, 1) := by decide +kernel
theorem dX9_keep_48 : decode cX9_keep 48 = .ok (.sipush 652, 3) := by decide +kernel
theorem dX9_keep_51 : decode cX9_keep 51 = .ok (.if_icmp .ge 27, 3) := by decide +kernel
theorem dX9_keep_54 : decode cX9_keep 54 = .ok (.aload_n 0, 1) := by decide +kernel
theorem dX9_keep_55 : decode cX9_keep 55 = .ok (.getfield 13, 3) := by decide +kernel
theorem dX9_keep_58 : decode cX9_keep 58 = .ok (.sipush 652, 3) := by decide +kernel
theorem dX9_keep_61 : decode cX9_keep 61 = .ok (.iload_n 1, 1) := by decide +kernel
theorem dX9_keep_62 : decode cX9_keep 62 = .ok (.imul, 1) := by decide +kernel
theorem dX9_keep_63 : decode cX9_keep 63 = .ok (.iload_n 2, 1) := by decide +kernel
theorem dX9_keep_64 : decode cX9_keep 64 = .ok (.iadd, 1) := by decide +kernel
theorem dX9_keep_65 : decode cX9_keep 65 = .ok (.aload_n 0, 1) := by decide +kernel
theorem dX9_keep_66 : decode cX9_keep 66 = .ok (.getfield 7, 3) := by decide +kernel
theorem dX9_keep_69 : decode cX9_keep 69 = .ok (.iload_n 2, 1) := by decide +kernel
theorem dX9_keep_70 : decode cX9_keep 70 = .ok (.iaload, 1) := by decide +kernel
theorem dX9_keep_71 : decode cX9_keep 71 = .ok (.iastore, 1) := by decide +kernel
theorem dX9_keep_72 : decode cX9_keep 72 = .ok (.iinc 2 1, 3) := by decide +kernel
theorem dX9_keep_75 : decode cX9_keep 75 = .ok (.goto (-28), 3) := by decide +kernel
theorem dX9_keep_78 : decode cX9_keep 78 = .ok (.aload_n 0, 1) := by decide +kernel
theorem dX9_keep_79 : decode cX9_keep 79 = .ok (.dup, 1) := by decide +kernel
theorem dX9_keep_80 : decode cX9_keep 80 = .ok (.getfield 39, 3) := by decide +kernel
theorem dX9_keep_83 : decode cX9_keep 83 = .ok (.iconst 1, 1) := by decide +kernel
theorem dX9_keep_84 : decode cX9_keep 84 = .ok (.iadd, 1) := by decide +kernel
theorem dX9_keep_85 : decode cX9_keep 85 = .ok (.putfield 39, 3) := by decide +kernel
theorem dX9_keep_88 : decode cX9_keep 88 = .ok (.return_, 1) := by decide +kernel
theorem dX9_keepIf_0 : decode cX9_keepIf 0 = .ok (.iload_n 1, 1) := by decide +kernel
theorem dX9_keepIf_1 : decode cX9_keepIf 1 = .ok (.ifCond .eq 7, 3) := by decide +kernel
theorem dX9_keepIf_4 : decode cX9_keepIf 4 = .ok (.aload_n 0, 1) := by decide +kernel
theorem dX9_keepIf_5 : decode cX9_keepIf 5 = .ok (.invokevirtual 46, 3) := by decide +kernel
theorem dX9_keepIf_8 : decode cX9_keepIf 8 = .ok (.return_, 1) := by decide +kernel
theorem dX9_layAside_0 : decode cX9_layAside 0 = .ok (.iconst 0, 1) := by decide +kernel
theorem dX9_layAside_1 : decode cX9_layAside 1 = .ok (.istore_n 1, 1) := by decide +kernel
theorem dX9_layAside_2 : decode cX9_layAside 2 = .ok (.iload_n 1, 1) := by decide +kernel
theorem dX9_layAside_3 : decode cX9_layAside 3 = .ok (.sipush 652, 3) := by decide +kernel
theorem dX9_layAside_6 : decode cX9_layAside 6 = .ok (.if_icmp .ge 21, 3) := by decide +kernel
theorem dX9_layAside_9 : decode cX9_layAside 9 = .ok (.aload_n 0, 1) := by decide +kernel
theorem dX9_layAside_10 : decode cX9_layAside 10 = .ok (.getfield 23, 3) := by decide +kernel
theorem dX9_layAside_13 : decode cX9_layAside 13 = .ok (.iload_n 1, 1) := by decide +kernel
theorem dX9_layAside_14 : decode cX9_layAside 14 = .ok (.aload_n 0, 1) := by decide +kernel
theorem dX9_layAside_15 : decode cX9_layAside 15 = .ok (.getfield 7, 3) := by decide +kernel
theorem dX9_layAside_18 : decode cX9_layAside 18 = .ok (.iload_n 1, 1) := by decide +kernel
theorem dX9_layAside_19 : decode cX9_layAside 19 = .ok (.iaload, 1) := by decide +kernel
theorem dX9_layAside_20 : decode cX9_layAside 20 = .ok (.iastore, 1) := by decide +kernel
theorem dX9_layAside_21 : decode cX9_layAside 21 = .ok (.iinc 1 1, 3) := by decide +kernel
theorem dX9_layAside_24 : decode cX9_layAside 24 = .ok (.goto (-22), 3) := by decide +kernel
theorem dX9_layAside_27 : decode cX9_layAside 27 = .ok (.return_, 1) := by decide +kernel
theorem dX9_layBack_0 : decode cX9_layBack 0 = .ok (.iconst 0, 1) := by decide +kernel
theorem dX9_layBack_1 : decode cX9_layBack 1 = .ok (.istore_n 1, 1) := by decide +kernel
theorem dX9_layBack_2 : decode cX9_layBack 2 = .ok (.iload_n 1, 1) := by decide +kernel
theorem dX9_layBack_3 : decode cX9_layBack 3 = .ok (.sipush 652, 3) := by decide +kernel
theorem dX9_layBack_6 : decode cX9_layBack 6 = .ok (.if_icmp .ge 21, 3) := by decide +kernel
theorem dX9_layBack_9 : decode cX9_layBack 9 = .ok (.aload_n 0, 1) := by decide +kernel
theorem dX9_layBack_10 : decode cX9_layBack 10 = .ok (.getfield 7, 3) := by decide +kernel
theorem dX9_layBack_13 : decode cX9_layBack 13 = .ok (.iload_n 1, 1) := by decide +kernel
theorem dX9_layBack_14 : decode cX9_layBack 14 = .ok (.aload_n 0, 1) := by decide +kernel
theorem dX9_layBack_15 : decode cX9_layBack 15 = .ok (.getfield 23, 3) := by decide +kernel
theorem dX9_layBack_18 : decode cX9_layBack 18 = .ok (.iload_n 1, 1) := by decide +kernel
theorem dX9_layBack_19 : decode cX9_layBack 19 = .ok (.iaload, 1) := by decide +kernel
theorem dX9_layBack_20 : decode cX9_layBack 20 = .ok (.iastore, 1) := by decide +kernel
theorem dX9_layBack_21 : decode cX9_layBack 21 = .ok (.iinc 1 1, 3) := by decide +kernel
theorem dX9_layBack_24 : decode cX9_layBack 24 = .ok (.goto (-22), 3) := by decide +kernel
theorem dX9_layBack_27 : decode cX9_layBack 27 = .ok (.return_, 1) := by decide +kernel
theorem dX9_placeOf_0 : decode cX9_placeOf 0 = .ok (.iconst 0, 1) := by decide +kernel
theorem dX9_placeOf_1 : decode cX9_placeOf 1 = .ok (.istore_n 3, 1) := by decide +kernel
theorem dX9_placeOf_2 : decode cX9_placeOf 2 = .ok (.iload_n 3, 1) := by decide +kernel
theorem dX9_placeOf_3 : decode cX9_placeOf 3 = .ok (.aload_n 0, 1) := by decide +kernel
theorem dX9_placeOf_4 : decode cX9_placeOf 4 = .ok (.iload_n 1, 1) := by decide +kernel
theorem dX9_placeOf_5 : decode cX9_placeOf 5 = .ok (.iconst 0, 1) := by decide +kernel
theorem dX9_placeOf_6 : decode cX9_placeOf 6 = .ok (.invokevirtual 49, 3) := by decide +kernel
theorem dX9_placeOf_9 : decode cX9_placeOf 9 = .ok (.if_icmp .ge 20, 3) := by decide +kernel
theorem dX9_placeOf_12 : decode cX9_placeOf 12 = .ok (.aload_n 0, 1) := by decide +kernel
theorem dX9_placeOf_13 : decode cX9_placeOf 13 = .ok (.iload_n 1, 1) := by decide +kernel
theorem dX9_placeOf_14 : decode cX9_placeOf 14 = .ok (.iload_n 3, 1) := by decide +kernel
theorem dX9_placeOf_15 : decode cX9_placeOf 15 = .ok (.iconst 0, 1) := by decide +kernel
theorem dX9_placeOf_16 : decode cX9_placeOf 16 = .ok (.invokevirtual 53, 3) := by decide +kernel
theorem dX9_placeOf_19 : decode cX9_placeOf 19 = .ok (.iload_n 2, 1) := by decide +kernel
theorem dX9_placeOf_20 : decode cX9_placeOf 20 = .ok (.if_icmp .eq 9, 3) := by decide +kernel
theorem dX9_placeOf_23 : decode cX9_placeOf 23 = .ok (.iinc 3 1, 3) := by decide +kernel
theorem dX9_placeOf_26 : decode cX9_placeOf 26 = .ok (.goto (-24), 3) := by decide +kernel
theorem dX9_placeOf_29 : decode cX9_placeOf 29 = .ok (.iload_n 3, 1) := by decide +kernel
theorem dX9_placeOf_30 : decode cX9_placeOf 30 = .ok (.aload_n 0, 1) := by decide +kernel
theorem dX9_placeOf_31 : decode cX9_placeOf 31 = .ok (.iload_n 1, 1) := by decide +kernel
theorem dX9_placeOf_32 : decode cX9_placeOf 32 = .ok (.iconst 0, 1) := by decide +kernel
theorem dX9_placeOf_33 : decode cX9_placeOf 33 = .ok (.invokevirtual 49, 3) := by decide +kernel
theorem dX9_placeOf_36 : decode cX9_placeOf 36 = .ok (.if_icmp .ge 7, 3) := by decide +kernel
theorem dX9_placeOf_39 : decode cX9_placeOf 39 = .ok (.iload_n 3, 1) := by decide +kernel
theorem dX9_placeOf_40 : decode cX9_placeOf 40 = .ok (.goto 5, 3) := by decide +kernel
theorem dX9_placeOf_43 : decode cX9_placeOf 43 = .ok (.bipush (-6), 2) := by decide +kernel
theorem dX9_placeOf_45 : decode cX9_placeOf 45 = .ok (.ireturn, 1) := by decide +kernel
theorem dX9_takeOff_0 : decode cX9_takeOff 0 = .ok (.aload_n 0, 1) := by decide +kernel
theorem dX9_takeOff_1 : decode cX9_takeOff 1 = .ok (.iload_n 1, 1) := by decide +kernel
theorem dX9_takeOff_2 : decode cX9_takeOff 2 = .ok (.iconst 0, 1) := by decide +kernel
theorem dX9_takeOff_3 : decode cX9_takeOff 3 = .ok (.iconst (-1), 1) := by decide +kernel
theorem dX9_takeOff_4 : decode cX9_takeOff 4 = .ok (.invokevirtual 57, 3) := by decide +kernel
theorem dX9_takeOff_7 : decode cX9_takeOff 7 = .ok (.sipush 208, 3) := by decide +kernel
theorem dX9_takeOff_10 : decode cX9_takeOff 10 = .ok (.bipush 24, 2) := by decide +kernel
theorem dX9_takeOff_12 : decode cX9_takeOff 12 = .ok (.iload_n 1, 1) := by decide +kernel
theorem dX9_takeOff_13 : decode cX9_takeOff 13 = .ok (.imul, 1) := by decide +kernel
theorem dX9_takeOff_14 : decode cX9_takeOff 14 = .ok (.iadd, 1) := by decide +kernel
theorem dX9_takeOff_15 : decode cX9_takeOff 15 = .ok (.iconst 3, 1) := by decide +kernel
theorem dX9_takeOff_16 : decode cX9_takeOff 16 = .ok (.iload_n 2, 1) := by decide +kernel
theorem dX9_takeOff_17 : decode cX9_takeOff 17 = .ok (.imul, 1) := by decide +kernel
theorem dX9_takeOff_18 : decode cX9_takeOff 18 = .ok (.iadd, 1) := by decide +kernel
theorem dX9_takeOff_19 : decode cX9_takeOff 19 = .ok (.istore_n 3, 1) := by decide +kernel
theorem dX9_takeOff_20 : decode cX9_takeOff 20 = .ok (.iload_n 3, 1) := by decide +kernel
theorem dX9_takeOff_21 : decode cX9_takeOff 21 = .ok (.sipush 208, 3) := by decide +kernel
theorem dX9_takeOff_24 : decode cX9_takeOff 24 = .ok (.bipush 24, 2) := by decide +kernel
theorem dX9_takeOff_26 : decode cX9_takeOff 26 = .ok (.iload_n 1, 1) := by decide +kernel
theorem dX9_takeOff_27 : decode cX9_takeOff 27 = .ok (.imul, 1) := by decide +kernel
theorem dX9_takeOff_28 : decode cX9_takeOff 28 = .ok (.iadd, 1) := by decide +kernel
theorem dX9_takeOff_29 : decode cX9_takeOff 29 = .ok (.iconst 3, 1) := by decide +kernel
theorem dX9_takeOff_30 : decode cX9_takeOff 30 = .ok (.aload_n 0, 1) := by decide +kernel
theorem dX9_takeOff_31 : decode cX9_takeOff 31 = .ok (.iload_n 1, 1) := by decide +kernel
theorem dX9_takeOff_32 : decode cX9_takeOff 32 = .ok (.iconst 0, 1) := by decide +kernel
theorem dX9_takeOff_33 : decode cX9_takeOff 33 = .ok (.invokevirtual 49, 3) := by decide +kernel
theorem dX9_takeOff_36 : decode cX9_takeOff 36 = .ok (.imul, 1) := by decide +kernel
theorem dX9_takeOff_37 : decode cX9_takeOff 37 = .ok (.iadd, 1) := by decide +kernel
theorem dX9_takeOff_38 : decode cX9_takeOff 38 = .ok (.if_icmp .ge 23, 3) := by decide +kernel
theorem dX9_takeOff_41 : decode cX9_takeOff 41 = .ok (.aload_n 0, 1) := by decide +kernel
theorem dX9_takeOff_42 : decode cX9_takeOff 42 = .ok (.getfield 7, 3) := by decide +kernel
theorem dX9_takeOff_45 : decode cX9_takeOff 45 = .ok (.iload_n 3, 1) := by decide +kernel
theorem dX9_takeOff_46 : decode cX9_takeOff 46 = .ok (.aload_n 0, 1) := by decide +kernel
theorem dX9_takeOff_47 : decode cX9_takeOff 47 = .ok (.getfield 7, 3) := by decide +kernel
theorem dX9_takeOff_50 : decode cX9_takeOff 50 = .ok (.iload_n 3, 1) := by decide +kernel
theorem dX9_takeOff_51 : decode cX9_takeOff 51 = .ok (.iconst 3, 1) := by decide +kernel
theorem dX9_takeOff_52 : decode cX9_takeOff 52 = .ok (.iadd, 1) := by decide +kernel
theorem dX9_takeOff_53 : decode cX9_takeOff 53 = .ok (.iaload, 1) := by decide +kernel
theorem dX9_takeOff_54 : decode cX9_takeOff 54 = .ok (.iastore, 1) := by decide +kernel
theorem dX9_takeOff_55 : decode cX9_takeOff 55 = .ok (.iinc 3 1, 3) := by decide +kernel
theorem dX9_takeOff_58 : decode cX9_takeOff 58 = .ok (.goto (-38), 3) := by decide +kernel
theorem dX9_takeOff_61 : decode cX9_takeOff 61 = .ok (.return_, 1) := by decide +kernel
theorem dX9_layOn_0 : decode cX9_layOn 0 = .ok (.aload_n 0, 1) := by decide +kernel
theorem dX9_layOn_1 : decode cX9_layOn 1 = .ok (.iload_n 1, 1) := by decide +kernel
theorem dX9_layOn_2 : decode cX9_layOn 2 = .ok (.iconst 0, 1) := by decide +kernel
theorem dX9_layOn_3 : decode cX9_layOn 3 = .ok (.invokevirtual 49, 3) := by decide +kernel
theorem dX9_layOn_6 : decode cX9_layOn 6 = .ok (.istore 5, 2) := by decide +kernel
theorem dX9_layOn_8 : decode cX9_layOn 8 = .ok (.aload_n 0, 1) := by decide +kernel
theorem dX9_layOn_9 : decode cX9_layOn 9 = .ok (.iload_n 1, 1) := by decide +kernel
theorem dX9_layOn_10 : decode cX9_layOn 10 = .ok (.iload 5, 2) := by decide +kernel
theorem dX9_layOn_12 : decode cX9_layOn 12 = .ok (.iconst 0, 1) := by decide +kernel
theorem dX9_layOn_13 : decode cX9_layOn 13 = .ok (.iload_n 2, 1) := by decide +kernel
theorem dX9_layOn_14 : decode cX9_layOn 14 = .ok (.invokevirtual 61, 3) := by decide +kernel
theorem dX9_layOn_17 : decode cX9_layOn 17 = .ok (.aload_n 0, 1) := by decide +kernel
theorem dX9_layOn_18 : decode cX9_layOn 18 = .ok (.iload_n 1, 1) := by decide +kernel
theorem dX9_layOn_19 : decode cX9_layOn 19 = .ok (.iload 5, 2) := by decide +kernel
theorem dX9_layOn_21 : decode cX9_layOn 21 = .ok (.iconst 1, 1) := by decide +kernel
theorem dX9_layOn_22 : decode cX9_layOn 22 = .ok (.iload_n 3, 1) := by decide +kernel
theorem dX9_layOn_23 : decode cX9_layOn 23 = .ok (.invokevirtual 61, 3) := by decide +kernel
theorem dX9_layOn_26 : decode cX9_layOn 26 = .ok (.aload_n 0, 1) := by decide +kernel
theorem dX9_layOn_27 : decode cX9_layOn 27 = .ok (.iload_n 1, 1) := by decide +kernel
theorem dX9_layOn_28 : decode cX9_layOn 28 = .ok (.iload 5, 2) := by decide +kernel
theorem dX9_layOn_30 : decode cX9_layOn 30 = .ok (.iconst 2, 1) := by decide +kernel
theorem dX9_layOn_31 : decode cX9_layOn 31 = .ok (.iload 4, 2) := by decide +kernel
theorem dX9_layOn_33 : decode cX9_layOn 33 = .ok (.invokevirtual 61, 3) := by decide +kernel
theorem dX9_layOn_36 : decode cX9_layOn 36 = .ok (.aload_n 0, 1) := by decide +kernel
theorem dX9_layOn_37 : decode cX9_layOn 37 = .ok (.iload_n 1, 1) := by decide +kernel
theorem dX9_layOn_38 : decode cX9_layOn 38 = .ok (.iconst 0, 1) := by decide +kernel
theorem dX9_layOn_39 : decode cX9_layOn 39 = .ok (.iconst 1, 1) := by decide +kernel
theorem dX9_layOn_40 : decode cX9_layOn 40 = .ok (.invokevirtual 57, 3) := by decide +kernel
theorem dX9_layOn_43 : decode cX9_layOn 43 = .ok (.return_, 1) := by decide +kernel
theorem dX9_use_0 : decode cX9_use 0 = .ok (.aload_n 0, 1) := by decide +kernel
theorem dX9_use_1 : decode cX9_use 1 = .ok (.iload_n 1, 1) := by decide +kernel
theorem dX9_use_2 : decode cX9_use 2 = .ok (.iload_n 2, 1) := by decide +kernel
theorem dX9_use_3 : decode cX9_use 3 = .ok (.iconst 0, 1) := by decide +kernel
theorem dX9_use_4 : decode cX9_use 4 = .ok (.invokevirtual 53, 3) := by decide +kernel
theorem dX9_use_7 : decode cX9_use 7 = .ok (.istore_n 3, 1) := by decide +kernel
theorem dX9_use_8 : decode cX9_use 8 = .ok (.aload_n 0, 1) := by decide +kernel
theorem dX9_use_9 : decode cX9_use 9 = .ok (.iload_n 1, 1) := by decide +kernel
theorem dX9_use_10 : decode cX9_use 10 = .ok (.iload_n 2, 1) := by decide +kernel
theorem dX9_use_11 : decode cX9_use 11 = .ok (.iconst 1, 1) := by decide +kernel
theorem dX9_use_12 : decode cX9_use 12 = .ok (.invokevirtual 53, 3) := by decide +kernel
theorem dX9_use_15 : decode cX9_use 15 = .ok (.istore 4, 2) := by decide +kernel
theorem dX9_use_17 : decode cX9_use 17 = .ok (.aload_n 0, 1) := by decide +kernel
theorem dX9_use_18 : decode cX9_use 18 = .ok (.iload_n 1, 1) := by decide +kernel
theorem dX9_use_19 : decode cX9_use 19 = .ok (.iload_n 2, 1) := by decide +kernel
theorem dX9_use_20 : decode cX9_use 20 = .ok (.iconst 2, 1) := by decide +kernel
theorem dX9_use_21 : decode cX9_use 21 = .ok (.invokevirtual 53, 3) := by decide +kernel
theorem dX9_use_24 : decode cX9_use 24 = .ok (.istore 5, 2) := by decide +kernel
theorem dX9_use_26 : decode cX9_use 26 = .ok (.aload_n 0, 1) := by decide +kernel
theorem dX9_use_27 : decode cX9_use 27 = .ok (.iload_n 1, 1) := by decide +kernel
theorem dX9_use_28 : decode cX9_use 28 = .ok (.iload_n 2, 1) := by decide +kernel
theorem dX9_use_29 : decode cX9_use 29 = .ok (.invokevirtual 65, 3) := by decide +kernel
theorem dX9_use_32 : decode cX9_use 32 = .ok (.aload_n 0, 1) := by decide +kernel
theorem dX9_use_33 : decode cX9_use 33 = .ok (.iload_n 1, 1) := by decide +kernel
theorem dX9_use_34 : decode cX9_use 34 = .ok (.iload_n 3, 1) := by decide +kernel
theorem dX9_use_35 : decode cX9_use 35 = .ok (.iload 4, 2) := by decide +kernel
theorem dX9_use_37 : decode cX9_use 37 = .ok (.iload 5, 2) := by decide +kernel
theorem dX9_use_39 : decode cX9_use 39 = .ok (.invokevirtual 69, 3) := by decide +kernel
theorem dX9_use_42 : decode cX9_use 42 = .ok (.return_, 1) := by decide +kernel
theorem dX9_giveBack_0 : decode cX9_giveBack 0 = .ok (.aload_n 0, 1) := by decide +kernel
theorem dX9_giveBack_1 : decode cX9_giveBack 1 = .ok (.iload_n 1, 1) := by decide +kernel
theorem dX9_giveBack_2 : decode cX9_giveBack 2 = .ok (.iload_n 2, 1) := by decide +kernel
theorem dX9_giveBack_3 : decode cX9_giveBack 3 = .ok (.iconst 2, 1) := by decide +kernel
theorem dX9_giveBack_4 : decode cX9_giveBack 4 = .ok (.invokevirtual 53, 3) := by decide +kernel
theorem dX9_giveBack_7 : decode cX9_giveBack 7 = .ok (.iconst 1, 1) := by decide +kernel
theorem dX9_giveBack_8 : decode cX9_giveBack 8 = .ok (.if_icmp .ne 22, 3) := by decide +kernel
theorem dX9_giveBack_11 : decode cX9_giveBack 11 = .ok (.aload_n 0, 1) := by decide +kernel
theorem dX9_giveBack_12 : decode cX9_giveBack 12 = .ok (.aload_n 0, 1) := by decide +kernel
theorem dX9_giveBack_13 : decode cX9_giveBack 13 = .ok (.iload_n 1, 1) := by decide +kernel
theorem dX9_giveBack_14 : decode cX9_giveBack 14 = .ok (.iload_n 2, 1) := by decide +kernel
theorem dX9_giveBack_15 : decode cX9_giveBack 15 = .ok (.iconst 0, 1) := by decide +kernel
theorem dX9_giveBack_16 : decode cX9_giveBack 16 = .ok (.invokevirtual 53, 3) := by decide +kernel
theorem dX9_giveBack_19 : decode cX9_giveBack 19 = .ok (.iconst 0, 1) := by decide +kernel
theorem dX9_giveBack_20 : decode cX9_giveBack 20 = .ok (.aload_n 0, 1) := by decide +kernel
theorem dX9_giveBack_21 : decode cX9_giveBack 21 = .ok (.iload_n 1, 1) := by decide +kernel
theorem dX9_giveBack_22 : decode cX9_giveBack 22 = .ok (.iload_n 2, 1) := by decide +kernel
theorem dX9_giveBack_23 : decode cX9_giveBack 23 = .ok (.iconst 1, 1) := by decide +kernel
theorem dX9_giveBack_24 : decode cX9_giveBack 24 = .ok (.invokevirtual 53, 3) := by decide +kernel
theorem dX9_giveBack_27 : decode cX9_giveBack 27 = .ok (.invokevirtual 72, 3) := by decide +kernel
theorem dX9_giveBack_30 : decode cX9_giveBack 30 = .ok (.return_, 1) := by decide +kernel
theorem dX9_group_0 : decode cX9_group 0 = .ok (.iload_n 1, 1) := by decide +kernel
theorem dX9_group_1 : decode cX9_group 1 = .ok (.aload_n 0, 1) := by decide +kernel
theorem dX9_group_2 : decode cX9_group 2 = .ok (.getfield 7, 3) := by decide +kernel
theorem dX9_group_5 : decode cX9_group 5 = .ok (.iconst 1, 1) := by decide +kernel
theorem dX9_group_6 : decode cX9_group 6 = .ok (.iaload, 1) := by decide +kernel
theorem dX9_group_7 : decode cX9_group 7 = .ok (.idiv, 1) := by decide +kernel
theorem dX9_group_8 : decode cX9_group 8 = .ok (.ireturn, 1) := by decide +kernel
theorem dX9_called_0 : decode cX9_called 0 = .ok (.iconst 0, 1) := by decide +kernel
theorem dX9_called_1 : decode cX9_called 1 = .ok (.istore_n 2, 1) := by decide +kernel
theorem dX9_called_2 : decode cX9_called 2 = .ok (.iconst 0, 1) := by decide +kernel
theorem dX9_called_3 : decode cX9_called 3 = .ok (.istore_n 3, 1) := by decide +kernel
theorem dX9_called_4 : decode cX9_called 4 = .ok (.iload_n 3, 1) := by decide +kernel
theorem dX9_called_5 : decode cX9_called 5 = .ok (.bipush 16, 2) := by decide +kernel
theorem dX9_called_7 : decode cX9_called 7 = .ok (.if_icmp .ge 63, 3) := by decide +kernel
theorem dX9_called_10 : decode cX9_called 10 = .ok (.aload_n 0, 1) := by decide +kernel
theorem dX9_called_11 : decode cX9_called 11 = .ok (.iload_n 1, 1) := by decide +kernel
theorem dX9_called_12 : decode cX9_called 12 = .ok (.iconst 1, 1) := by decide +kernel
theorem dX9_called_13 : decode cX9_called 13 = .ok (.invokevirtual 75, 3) := by decide +kernel
theorem dX9_called_16 : decode cX9_called 16 = .ok (.iconst 2, 1) := by decide +kernel
theorem dX9_called_17 : decode cX9_called 17 = .ok (.if_icmp .ne 20, 3) := by decide +kernel
theorem dX9_called_20 : decode cX9_called 20 = .ok (.aload_n 0, 1) := by decide +kernel
theorem dX9_called_21 : decode cX9_called 21 = .ok (.iload_n 1, 1) := by decide +kernel
theorem dX9_called_22 : decode cX9_called 22 = .ok (.iconst 2, 1) := by decide +kernel
theorem dX9_called_23 : decode cX9_called 23 = .ok (.invokevirtual 75, 3) := by decide +kernel
theorem dX9_called_26 : decode cX9_called 26 = .ok (.aload_n 0, 1) := by decide +kernel
theorem dX9_called_27 : decode cX9_called 27 = .ok (.iload_n 3, 1) := by decide +kernel
theorem dX9_called_28 : decode cX9_called 28 = .ok (.invokevirtual 78, 3) := by decide +kernel
theorem dX9_called_31 : decode cX9_called 31 = .ok (.invokestatic 82, 3) := by decide +kernel
theorem dX9_called_34 : decode cX9_called 34 = .ok (.goto 13, 3) := by decide +kernel
theorem dX9_called_37 : decode cX9_called 37 = .ok (.aload_n 0, 1) := by decide +kernel
theorem dX9_called_38 : decode cX9_called 38 = .ok (.iload_n 1, 1) := by decide +kernel
theorem dX9_called_39 : decode cX9_called 39 = .ok (.iconst 2, 1) := by decide +kernel
theorem dX9_called_40 : decode cX9_called 40 = .ok (.invokevirtual 75, 3) := by decide +kernel
theorem dX9_called_43 : decode cX9_called 43 = .ok (.iload_n 3, 1) := by decide +kernel
theorem dX9_called_44 : decode cX9_called 44 = .ok (.invokestatic 82, 3) := by decide +kernel
theorem dX9_called_47 : decode cX9_called 47 = .ok (.istore 4, 2) := by decide +kernel
theorem dX9_called_49 : decode cX9_called 49 = .ok (.iload_n 2, 1) := by decide +kernel
theorem dX9_called_50 : decode cX9_called 50 = .ok (.iload 4, 2) := by decide +kernel
theorem dX9_called_52 : decode cX9_called 52 = .ok (.ifCond .eq 9, 3) := by decide +kernel
theorem dX9_called_55 : decode cX9_called 55 = .ok (.iconst 1, 1) := by decide +kernel
theorem dX9_called_56 : decode cX9_called 56 = .ok (.iload_n 3, 1) := by decide +kernel
theorem dX9_called_57 : decode cX9_called 57 = .ok (.ishl, 1) := by decide +kernel
theorem dX9_called_58 : decode cX9_called 58 = .ok (.goto 4, 3) := by decide +kernel
theorem dX9_called_61 : decode cX9_called 61 = .ok (.iconst 0, 1) := by decide +kernel
theorem dX9_called_62 : decode cX9_called 62 = .ok (.ior, 1) := by decide +kernel
theorem dX9_called_63 : decode cX9_called 63 = .ok (.istore_n 2, 1) := by decide +kernel
theorem dX9_called_64 : decode cX9_called 64 = .ok (.iinc 3 1, 3) := by decide +kernel
theorem dX9_called_67 : decode cX9_called 67 = .ok (.goto (-63), 3) := by decide +kernel
theorem dX9_called_70 : decode cX9_called 70 = .ok (.iload_n 2, 1) := by decide +kernel
theorem dX9_called_71 : decode cX9_called 71 = .ok (.ireturn, 1) := by decide +kernel
theorem dX9_layCard_0 : decode cX9_layCard 0 = .ok (.aload_n 0, 1) := by decide +kernel
theorem dX9_layCard_1 : decode cX9_layCard 1 = .ok (.iload_n 1, 1) := by decide +kernel
theorem dX9_layCard_2 : decode cX9_layCard 2 = .ok (.iconst 1, 1) := by decide +kernel
theorem dX9_layCard_3 : decode cX9_layCard 3 = .ok (.iload_n 2, 1) := by decide +kernel
theorem dX9_layCard_4 : decode cX9_layCard 4 = .ok (.invokevirtual 72, 3) := by decide +kernel
theorem dX9_layCard_7 : decode cX9_layCard 7 = .ok (.aload_n 0, 1) := by decide +kernel
theorem dX9_layCard_8 : decode cX9_layCard 8 = .ok (.iload_n 1, 1) := by decide +kernel
theorem dX9_layCard_9 : decode cX9_layCard 9 = .ok (.iconst 2, 1) := by decide +kernel
theorem dX9_layCard_10 : decode cX9_layCard 10 = .ok (.iload_n 3, 1) := by decide +kernel
theorem dX9_layCard_11 : decode cX9_layCard 11 = .ok (.invokevirtual 72, 3) := by decide +kernel
theorem dX9_layCard_14 : decode cX9_layCard 14 = .ok (.return_, 1) := by decide +kernel
theorem dX9_groupsOf_0 : decode cX9_groupsOf 0 = .ok (.iconst 0, 1) := by decide +kernel
theorem dX9_groupsOf_1 : decode cX9_groupsOf 1 = .ok (.istore_n 2, 1) := by decide +kernel
theorem dX9_groupsOf_2 : decode cX9_groupsOf 2 = .ok (.iconst 0, 1) := by decide +kernel
theorem dX9_groupsOf_3 : decode cX9_groupsOf 3 = .ok (.istore_n 3, 1) := by decide +kernel
theorem dX9_groupsOf_4 : decode cX9_groupsOf 4 = .ok (.iload_n 3, 1) := by decide +kernel
theorem dX9_groupsOf_5 : decode cX9_groupsOf 5 = .ok (.bipush 16, 2) := by decide +kernel
theorem dX9_groupsOf_7 : decode cX9_groupsOf 7 = .ok (.if_icmp .ge 31, 3) := by decide +kernel
theorem dX9_groupsOf_10 : decode cX9_groupsOf 10 = .ok (.iload_n 2, 1) := by decide +kernel
theorem dX9_groupsOf_11 : decode cX9_groupsOf 11 = .ok (.iload_n 1, 1) := by decide +kernel
theorem dX9_groupsOf_12 : decode cX9_groupsOf 12 = .ok (.iload_n 3, 1) := by decide +kernel
theorem dX9_groupsOf_13 : decode cX9_groupsOf 13 = .ok (.invokestatic 82, 3) := by decide +kernel
theorem dX9_groupsOf_16 : decode cX9_groupsOf 16 = .ok (.ifCond .eq 13, 3) := by decide +kernel
theorem dX9_groupsOf_19 : decode cX9_groupsOf 19 = .ok (.iconst 1, 1) := by decide +kernel
theorem dX9_groupsOf_20 : decode cX9_groupsOf 20 = .ok (.aload_n 0, 1) := by decide +kernel
theorem dX9_groupsOf_21 : decode cX9_groupsOf 21 = .ok (.iload_n 3, 1) := by decide +kernel
theorem dX9_groupsOf_22 : decode cX9_groupsOf 22 = .ok (.invokevirtual 78, 3) := by decide +kernel
theorem dX9_groupsOf_25 : decode cX9_groupsOf 25 = .ok (.ishl, 1) := by decide +kernel
theorem dX9_groupsOf_26 : decode cX9_groupsOf 26 = .ok (.goto 4, 3) := by decide +kernel
theorem dX9_groupsOf_29 : decode cX9_groupsOf 29 = .ok (.iconst 0, 1) := by decide +kernel
theorem dX9_groupsOf_30 : decode cX9_groupsOf 30 = .ok (.ior, 1) := by decide +kernel
theorem dX9_groupsOf_31 : decode cX9_groupsOf 31 = .ok (.istore_n 2, 1) := by decide +kernel
theorem dX9_groupsOf_32 : decode cX9_groupsOf 32 = .ok (.iinc 3 1, 3) := by decide +kernel
theorem dX9_groupsOf_35 : decode cX9_groupsOf 35 = .ok (.goto (-31), 3) := by decide +kernel
theorem dX9_groupsOf_38 : decode cX9_groupsOf 38 = .ok (.iload_n 2, 1) := by decide +kernel
theorem dX9_groupsOf_39 : decode cX9_groupsOf 39 = .ok (.ireturn, 1) := by decide +kernel
theorem dX9_writeOn_0 : decode cX9_writeOn 0 = .ok (.aload_n 0, 1) := by decide +kernel
theorem dX9_writeOn_1 : decode cX9_writeOn 1 = .ok (.iload_n 1, 1) := by decide +kernel
theorem dX9_writeOn_2 : decode cX9_writeOn 2 = .ok (.iconst 2, 1) := by decide +kernel
theorem dX9_writeOn_3 : decode cX9_writeOn 3 = .ok (.invokevirtual 75, 3) := by decide +kernel
theorem dX9_writeOn_6 : decode cX9_writeOn 6 = .ok (.istore_n 3, 1) := by decide +kernel
theorem dX9_writeOn_7 : decode cX9_writeOn 7 = .ok (.iload_n 3, 1) := by decide +kernel
theorem dX9_writeOn_8 : decode cX9_writeOn 8 = .ok (.iconst 1, 1) := by decide +kernel
theorem dX9_writeOn_9 : decode cX9_writeOn 9 = .ok (.iload_n 2, 1) := by decide +kernel
theorem dX9_writeOn_10 : decode cX9_writeOn 10 = .ok (.ishl, 1) := by decide +kernel
theorem dX9_writeOn_11 : decode cX9_writeOn 11 = .ok (.ior, 1) := by decide +kernel
theorem dX9_writeOn_12 : decode cX9_writeOn 12 = .ok (.istore 4, 2) := by decide +kernel
theorem dX9_writeOn_14 : decode cX9_writeOn 14 = .ok (.aload_n 0, 1) := by decide +kernel
theorem dX9_writeOn_15 : decode cX9_writeOn 15 = .ok (.iload_n 1, 1) := by decide +kernel
theorem dX9_writeOn_16 : decode cX9_writeOn 16 = .ok (.iconst 1, 1) := by decide +kernel
theorem dX9_writeOn_17 : decode cX9_writeOn 17 = .ok (.invokevirtual 75, 3) := by decide +kernel
theorem dX9_writeOn_20 : decode cX9_writeOn 20 = .ok (.iconst 2, 1) := by decide +kernel
theorem dX9_writeOn_21 : decode cX9_writeOn 21 = .ok (.if_icmp .ne 21, 3) := by decide +kernel
theorem dX9_writeOn_24 : decode cX9_writeOn 24 = .ok (.aload_n 0, 1) := by decide +kernel
theorem dX9_writeOn_25 : decode cX9_writeOn 25 = .ok (.iload_n 1, 1) := by decide +kernel
theorem dX9_writeOn_26 : decode cX9_writeOn 26 = .ok (.iconst 2, 1) := by decide +kernel
theorem dX9_writeOn_27 : decode cX9_writeOn 27 = .ok (.iload_n 3, 1) := by decide +kernel
theorem dX9_writeOn_28 : decode cX9_writeOn 28 = .ok (.iconst 1, 1) := by decide +kernel
theorem dX9_writeOn_29 : decode cX9_writeOn 29 = .ok (.aload_n 0, 1) := by decide +kernel
theorem dX9_writeOn_30 : decode cX9_writeOn 30 = .ok (.iload_n 2, 1) := by decide +kernel
theorem dX9_writeOn_31 : decode cX9_writeOn 31 = .ok (.invokevirtual 78, 3) := by decide +kernel
theorem dX9_writeOn_34 : decode cX9_writeOn 34 = .ok (.ishl, 1) := by decide +kernel
theorem dX9_writeOn_35 : decode cX9_writeOn 35 = .ok (.ior, 1) := by decide +kernel
theorem dX9_writeOn_36 : decode cX9_writeOn 36 = .ok (.invokevirtual 86, 3) := by decide +kernel
theorem dX9_writeOn_39 : decode cX9_writeOn 39 = .ok (.goto 48, 3) := by decide +kernel
theorem dX9_writeOn_42 : decode cX9_writeOn 42 = .ok (.iload 4, 2) := by decide +kernel
theorem dX9_writeOn_44 : decode cX9_writeOn 44 = .ok (.invokestatic 89, 3) := by decide +kernel
theorem dX9_writeOn_47 : decode cX9_writeOn 47 = .ok (.aload_n 0, 1) := by decide +kernel
theorem dX9_writeOn_48 : decode cX9_writeOn 48 = .ok (.getfield 7, 3) := by decide +kernel
theorem dX9_writeOn_51 : decode cX9_writeOn 51 = .ok (.iconst 0, 1) := by decide +kernel
theorem dX9_writeOn_52 : decode cX9_writeOn 52 = .ok (.iaload, 1) := by decide +kernel
theorem dX9_writeOn_53 : decode cX9_writeOn 53 = .ok (.if_icmp .le 11, 3) := by decide +kernel
theorem dX9_writeOn_56 : decode cX9_writeOn 56 = .ok (.iload_n 3, 1) := by decide +kernel
theorem dX9_writeOn_57 : decode cX9_writeOn 57 = .ok (.iload_n 2, 1) := by decide +kernel
theorem dX9_writeOn_58 : decode cX9_writeOn 58 = .ok (.invokestatic 82, 3) := by decide +kernel
theorem dX9_writeOn_61 : decode cX9_writeOn 61 = .ok (.ifCond .eq 14, 3) := by decide +kernel
theorem dX9_writeOn_64 : decode cX9_writeOn 64 = .ok (.aload_n 0, 1) := by decide +kernel
theorem dX9_writeOn_65 : decode cX9_writeOn 65 = .ok (.iload_n 1, 1) := by decide +kernel
theorem dX9_writeOn_66 : decode cX9_writeOn 66 = .ok (.iconst 1, 1) := by decide +kernel
theorem dX9_writeOn_67 : decode cX9_writeOn 67 = .ok (.iload 4, 2) := by decide +kernel
theorem dX9_writeOn_69 : decode cX9_writeOn 69 = .ok (.invokevirtual 86, 3) := by decide +kernel
theorem dX9_writeOn_72 : decode cX9_writeOn 72 = .ok (.goto 15, 3) := by decide +kernel
theorem dX9_writeOn_75 : decode cX9_writeOn 75 = .ok (.aload_n 0, 1) := by decide +kernel
theorem dX9_writeOn_76 : decode cX9_writeOn 76 = .ok (.iload_n 1, 1) := by decide +kernel
theorem dX9_writeOn_77 : decode cX9_writeOn 77 = .ok (.iconst 2, 1) := by decide +kernel
theorem dX9_writeOn_78 : decode cX9_writeOn 78 = .ok (.aload_n 0, 1) := by decide +kernel
theorem dX9_writeOn_79 : decode cX9_writeOn 79 = .ok (.iload 4, 2) := by decide +kernel
theorem dX9_writeOn_81 : decode cX9_writeOn 81 = .ok (.invokevirtual 92, 3) := by decide +kernel
theorem dX9_writeOn_84 : decode cX9_writeOn 84 = .ok (.invokevirtual 86, 3) := by decide +kernel
theorem dX9_writeOn_87 : decode cX9_writeOn 87 = .ok (.return_, 1) := by decide +kernel
theorem dX9_strike_0 : decode cX9_strike 0 = .ok (.aload_n 0, 1) := by decide +kernel
theorem dX9_strike_1 : decode cX9_strike 1 = .ok (.iload_n 1, 1) := by decide +kernel
theorem dX9_strike_2 : decode cX9_strike 2 = .ok (.iconst 1, 1) := by decide +kernel
theorem dX9_strike_3 : decode cX9_strike 3 = .ok (.invokevirtual 75, 3) := by decide +kernel
theorem dX9_strike_6 : decode cX9_strike 6 = .ok (.iconst 2, 1) := by decide +kernel
theorem dX9_strike_7 : decode cX9_strike 7 = .ok (.if_icmp .ne 4, 3) := by decide +kernel
theorem dX9_strike_10 : decode cX9_strike 10 = .ok (.return_, 1) := by decide +kernel
theorem dX9_strike_11 : decode cX9_strike 11 = .ok (.aload_n 0, 1) := by decide +kernel
theorem dX9_strike_12 : decode cX9_strike 12 = .ok (.iload_n 1, 1) := by decide +kernel
theorem dX9_strike_13 : decode cX9_strike 13 = .ok (.iconst 1, 1) := by decide +kernel
theorem dX9_strike_14 : decode cX9_strike 14 = .ok (.invokevirtual 75, 3) := by decide +kernel
theorem dX9_strike_17 : decode cX9_strike 17 = .ok (.iconst 3, 1) := by decide +kernel
theorem dX9_strike_18 : decode cX9_strike 18 = .ok (.if_icmp .ne 7, 3) := by decide +kernel
theorem dX9_strike_21 : decode cX9_strike 21 = .ok (.iconst 0, 1) := by decide +kernel
theorem dX9_strike_22 : decode cX9_strike 22 = .ok (.goto 15, 3) := by decide +kernel
theorem dX9_strike_25 : decode cX9_strike 25 = .ok (.aload_n 0, 1) := by decide +kernel
theorem dX9_strike_26 : decode cX9_strike 26 = .ok (.iload_n 1, 1) := by decide +kernel
theorem dX9_strike_27 : decode cX9_strike 27 = .ok (.iconst 2, 1) := by decide +kernel
theorem dX9_strike_28 : decode cX9_strike 28 = .ok (.invokevirtual 75, 3) := by decide +kernel
theorem dX9_strike_31 : decode cX9_strike 31 = .ok (.iconst 1, 1) := by decide +kernel
theorem dX9_strike_32 : decode cX9_strike 32 = .ok (.iload_n 2, 1) := by decide +kernel
theorem dX9_strike_33 : decode cX9_strike 33 = .ok (.ishl, 1) := by decide +kernel
theorem dX9_strike_34 : decode cX9_strike 34 = .ok (.iconst (-1), 1) := by decide +kernel
theorem dX9_strike_35 : decode cX9_strike 35 = .ok (.ixor, 1) := by decide +kernel
theorem dX9_strike_36 : decode cX9_strike 36 = .ok (.iand, 1) := by decide +kernel
theorem dX9_strike_37 : decode cX9_strike 37 = .ok (.istore_n 3, 1) := by decide +kernel
theorem dX9_strike_38 : decode cX9_strike 38 = .ok (.aload_n 0, 1) := by decide +kernel
theorem dX9_strike_39 : decode cX9_strike 39 = .ok (.iload_n 1, 1) := by decide +kernel
theorem dX9_strike_40 : decode cX9_strike 40 = .ok (.iload_n 3, 1) := by decide +kernel
theorem dX9_strike_41 : decode cX9_strike 41 = .ok (.ifCond .ne 7, 3) := by decide +kernel
theorem dX9_strike_44 : decode cX9_strike 44 = .ok (.iconst 0, 1) := by decide +kernel
theorem dX9_strike_45 : decode cX9_strike 45 = .ok (.goto 4, 3) := by decide +kernel
theorem dX9_strike_48 : decode cX9_strike 48 = .ok (.iconst 1, 1) := by decide +kernel
theorem dX9_strike_49 : decode cX9_strike 49 = .ok (.iload_n 3, 1) := by decide +kernel
theorem dX9_strike_50 : decode cX9_strike 50 = .ok (.invokevirtual 86, 3) := by decide +kernel
theorem dX9_strike_53 : decode cX9_strike 53 = .ok (.return_, 1) := by decide +kernel
theorem dX9_callBack_0 : decode cX9_callBack 0 = .ok (.aload_n 0, 1) := by decide +kernel
theorem dX9_callBack_1 : decode cX9_callBack 1 = .ok (.getfield 7, 3) := by decide +kernel
theorem dX9_callBack_4 : decode cX9_callBack 4 = .ok (.iconst 4, 1) := by decide +kernel
theorem dX9_callBack_5 : decode cX9_callBack 5 = .ok (.dup2, 1) := by decide +kernel
theorem dX9_callBack_6 : decode cX9_callBack 6 = .ok (.iaload, 1) := by decide +kernel
theorem dX9_callBack_7 : decode cX9_callBack 7 = .ok (.iconst 1, 1) := by decide +kernel
theorem dX9_callBack_8 : decode cX9_callBack 8 = .ok (.iadd, 1) := by decide +kernel
theorem dX9_callBack_9 : decode cX9_callBack 9 = .ok (.iastore, 1) := by decide +kernel
theorem dX9_callBack_10 : decode cX9_callBack 10 = .ok (.aload_n 0, 1) := by decide +kernel
theorem dX9_callBack_11 : decode cX9_callBack 11 = .ok (.iload_n 2, 1) := by decide +kernel
theorem dX9_callBack_12 : decode cX9_callBack 12 = .ok (.iload_n 1, 1) := by decide +kernel
theorem dX9_callBack_13 : decode cX9_callBack 13 = .ok (.invokevirtual 95, 3) := by decide +kernel
theorem dX9_callBack_16 : decode cX9_callBack 16 = .ok (.istore_n 3, 1) := by decide +kernel
theorem dX9_callBack_17 : decode cX9_callBack 17 = .ok (.iload_n 3, 1) := by decide +kernel
theorem dX9_callBack_18 : decode cX9_callBack 18 = .ok (.ifCond .ge 21, 3) := by decide +kernel
theorem dX9_callBack_21 : decode cX9_callBack 21 = .ok (.aload_n 0, 1) := by decide +kernel
theorem dX9_callBack_22 : decode cX9_callBack 22 = .ok (.getfield 7, 3) := by decide +kernel
theorem dX9_callBack_25 : decode cX9_callBack 25 = .ok (.iconst 5, 1) := by decide +kernel
theorem dX9_callBack_26 : decode cX9_callBack 26 = .ok (.dup2, 1) := by decide +kernel
theorem dX9_callBack_27 : decode cX9_callBack 27 = .ok (.iaload, 1) := by decide +kernel
theorem dX9_callBack_28 : decode cX9_callBack 28 = .ok (.iconst 1, 1) := by decide +kernel
theorem dX9_callBack_29 : decode cX9_callBack 29 = .ok (.iadd, 1) := by decide +kernel
theorem dX9_callBack_30 : decode cX9_callBack 30 = .ok (.iastore, 1) := by decide +kernel
theorem dX9_callBack_31 : decode cX9_callBack 31 = .ok (.aload_n 0, 1) := by decide +kernel
theorem dX9_callBack_32 : decode cX9_callBack 32 = .ok (.iload_n 2, 1) := by decide +kernel
theorem dX9_callBack_33 : decode cX9_callBack 33 = .ok (.iconst 4, 1) := by decide +kernel
theorem dX9_callBack_34 : decode cX9_callBack 34 = .ok (.iconst 1, 1) := by decide +kernel
theorem dX9_callBack_35 : decode cX9_callBack 35 = .ok (.invokevirtual 57, 3) := by decide +kernel
theorem dX9_callBack_38 : decode cX9_callBack 38 = .ok (.return_, 1) := by decide +kernel
theorem dX9_callBack_39 : decode cX9_callBack 39 = .ok (.aload_n 0, 1) := by decide +kernel
theorem dX9_callBack_40 : decode cX9_callBack 40 = .ok (.iload_n 2, 1) := by decide +kernel
theorem dX9_callBack_41 : decode cX9_callBack 41 = .ok (.iload_n 3, 1) := by decide +kernel
theorem dX9_callBack_42 : decode cX9_callBack 42 = .ok (.invokevirtual 98, 3) := by decide +kernel
theorem dX9_callBack_45 : decode cX9_callBack 45 = .ok (.aload_n 0, 1) := by decide +kernel
theorem dX9_callBack_46 : decode cX9_callBack 46 = .ok (.iload_n 2, 1) := by decide +kernel
theorem dX9_callBack_47 : decode cX9_callBack 47 = .ok (.iload_n 3, 1) := by decide +kernel
theorem dX9_callBack_48 : decode cX9_callBack 48 = .ok (.invokevirtual 65, 3) := by decide +kernel
theorem dX9_callBack_51 : decode cX9_callBack 51 = .ok (.aload_n 0, 1) := by decide +kernel
theorem dX9_callBack_52 : decode cX9_callBack 52 = .ok (.getfield 7, 3) := by decide +kernel
theorem dX9_callBack_55 : decode cX9_callBack 55 = .ok (.iconst 4, 1) := by decide +kernel
theorem dX9_callBack_56 : decode cX9_callBack 56 = .ok (.dup2, 1) := by decide +kernel
theorem dX9_callBack_57 : decode cX9_callBack 57 = .ok (.iaload, 1) := by decide +kernel
theorem dX9_callBack_58 : decode cX9_callBack 58 = .ok (.iconst 1, 1) := by decide +kernel
theorem dX9_callBack_59 : decode cX9_callBack 59 = .ok (.iadd, 1) := by decide +kernel
theorem dX9_callBack_60 : decode cX9_callBack 60 = .ok (.iastore, 1) := by decide +kernel
theorem dX9_callBack_61 : decode cX9_callBack 61 = .ok (.aload_n 0, 1) := by decide +kernel
theorem dX9_callBack_62 : decode cX9_callBack 62 = .ok (.iload_n 1, 1) := by decide +kernel
theorem dX9_callBack_63 : decode cX9_callBack 63 = .ok (.iconst 3, 1) := by decide +kernel
theorem dX9_callBack_64 : decode cX9_callBack 64 = .ok (.aload_n 0, 1) := by decide +kernel
theorem dX9_callBack_65 : decode cX9_callBack 65 = .ok (.iload_n 1, 1) := by decide +kernel
theorem dX9_callBack_66 : decode cX9_callBack 66 = .ok (.iconst 3, 1) := by decide +kernel
theorem dX9_callBack_67 : decode cX9_callBack 67 = .ok (.invokevirtual 75, 3) := by decide +kernel
theorem dX9_callBack_70 : decode cX9_callBack 70 = .ok (.iconst 1, 1) := by decide +kernel
theorem dX9_callBack_71 : decode cX9_callBack 71 = .ok (.iadd, 1) := by decide +kernel
theorem dX9_callBack_72 : decode cX9_callBack 72 = .ok (.invokevirtual 72, 3) := by decide +kernel
theorem dX9_callBack_75 : decode cX9_callBack 75 = .ok (.aload_n 0, 1) := by decide +kernel
theorem dX9_callBack_76 : decode cX9_callBack 76 = .ok (.iload_n 2, 1) := by decide +kernel
theorem dX9_callBack_77 : decode cX9_callBack 77 = .ok (.iconst 3, 1) := by decide +kernel
theorem dX9_callBack_78 : decode cX9_callBack 78 = .ok (.iconst 1, 1) := by decide +kernel
theorem dX9_callBack_79 : decode cX9_callBack 79 = .ok (.invokevirtual 57, 3) := by decide +kernel
theorem dX9_callBack_82 : decode cX9_callBack 82 = .ok (.return_, 1) := by decide +kernel
theorem dX9_callBackBut_0 : decode cX9_callBackBut 0 = .ok (.aload_n 0, 1) := by decide +kernel
theorem dX9_callBackBut_1 : decode cX9_callBackBut 1 = .ok (.iload_n 1, 1) := by decide +kernel
theorem dX9_callBackBut_2 : decode cX9_callBackBut 2 = .ok (.invokevirtual 101, 3) := by decide +kernel
theorem dX9_callBackBut_5 : decode cX9_callBackBut 5 = .ok (.istore_n 3, 1) := by decide +kernel
theorem dX9_callBackBut_6 : decode cX9_callBackBut 6 = .ok (.aload_n 0, 1) := by decide +kernel
theorem dX9_callBackBut_7 : decode cX9_callBackBut 7 = .ok (.iload_n 1, 1) := by decide +kernel
theorem dX9_callBackBut_8 : decode cX9_callBackBut 8 = .ok (.iconst 1, 1) := by decide +kernel
theorem dX9_callBackBut_9 : decode cX9_callBackBut 9 = .ok (.invokevirtual 75, 3) := by decide +kernel
theorem dX9_callBackBut_12 : decode cX9_callBackBut 12 = .ok (.iconst 2, 1) := by decide +kernel
theorem dX9_callBackBut_13 : decode cX9_callBackBut 13 = .ok (.if_icmp .ne 7, 3) := by decide +kernel
theorem dX9_callBackBut_16 : decode cX9_callBackBut 16 = .ok (.iconst 1, 1) := by decide +kernel
theorem dX9_callBackBut_17 : decode cX9_callBackBut 17 = .ok (.goto 4, 3) := by decide +kernel
theorem dX9_callBackBut_20 : decode cX9_callBackBut 20 = .ok (.iconst 0, 1) := by decide +kernel
theorem dX9_callBackBut_21 : decode cX9_callBackBut 21 = .ok (.istore 4, 2) := by decide +kernel
theorem dX9_callBackBut_23 : decode cX9_callBackBut 23 = .ok (.iconst 0, 1) := by decide +kernel
theorem dX9_callBackBut_24 : decode cX9_callBackBut 24 = .ok (.istore 5, 2) := by decide +kernel
theorem dX9_callBackBut_26 : decode cX9_callBackBut 26 = .ok (.iload 5, 2) := by decide +kernel
theorem dX9_callBackBut_28 : decode cX9_callBackBut 28 = .ok (.bipush 16, 2) := by decide +kernel
theorem dX9_callBackBut_30 : decode cX9_callBackBut 30 = .ok (.if_icmp .ge 58, 3) := by decide +kernel
theorem dX9_callBackBut_33 : decode cX9_callBackBut 33 = .ok (.iload 5, 2) := by decide +kernel
theorem dX9_callBackBut_35 : decode cX9_callBackBut 35 = .ok (.iload_n 2, 1) := by decide +kernel
theorem dX9_callBackBut_36 : decode cX9_callBackBut 36 = .ok (.if_icmp .eq 46, 3) := by decide +kernel
theorem dX9_callBackBut_39 : decode cX9_callBackBut 39 = .ok (.iload_n 3, 1) := by decide +kernel
theorem dX9_callBackBut_40 : decode cX9_callBackBut 40 = .ok (.iload 5, 2) := by decide +kernel
theorem dX9_callBackBut_42 : decode cX9_callBackBut 42 = .ok (.invokestatic 82, 3) := by decide +kernel
theorem dX9_callBackBut_45 : decode cX9_callBackBut 45 = .ok (.ifCond .eq 37, 3) := by decide +kernel
theorem dX9_callBackBut_48 : decode cX9_callBackBut 48 = .ok (.aload_n 0, 1) := by decide +kernel
theorem dX9_callBackBut_49 : decode cX9_callBackBut 49 = .ok (.iload_n 1, 1) := by decide +kernel
theorem dX9_callBackBut_50 : decode cX9_callBackBut 50 = .ok (.iload 5, 2) := by decide +kernel
theorem dX9_callBackBut_52 : decode cX9_callBackBut 52 = .ok (.invokevirtual 104, 3) := by decide +kernel
theorem dX9_callBackBut_55 : decode cX9_callBackBut 55 = .ok (.aload_n 0, 1) := by decide +kernel
theorem dX9_callBackBut_56 : decode cX9_callBackBut 56 = .ok (.getfield 7, 3) := by decide +kernel
theorem dX9_callBackBut_59 : decode cX9_callBackBut 59 = .ok (.bipush 6, 2) := by decide +kernel
theorem dX9_callBackBut_61 : decode cX9_callBackBut 61 = .ok (.dup2, 1) := by decide +kernel
theorem dX9_callBackBut_62 : decode cX9_callBackBut 62 = .ok (.iaload, 1) := by decide +kernel
theorem dX9_callBackBut_63 : decode cX9_callBackBut 63 = .ok (.iload 4, 2) := by decide +kernel
theorem dX9_callBackBut_65 : decode cX9_callBackBut 65 = .ok (.iadd, 1) := by decide +kernel
theorem dX9_callBackBut_66 : decode cX9_callBackBut 66 = .ok (.iastore, 1) := by decide +kernel
theorem dX9_callBackBut_67 : decode cX9_callBackBut 67 = .ok (.aload_n 0, 1) := by decide +kernel
theorem dX9_callBackBut_68 : decode cX9_callBackBut 68 = .ok (.iload_n 1, 1) := by decide +kernel
theorem dX9_callBackBut_69 : decode cX9_callBackBut 69 = .ok (.iconst 4, 1) := by decide +kernel
theorem dX9_callBackBut_70 : decode cX9_callBackBut 70 = .ok (.aload_n 0, 1) := by decide +kernel
theorem dX9_callBackBut_71 : decode cX9_callBackBut 71 = .ok (.iload_n 1, 1) := by decide +kernel
theorem dX9_callBackBut_72 : decode cX9_callBackBut 72 = .ok (.iconst 4, 1) := by decide +kernel
theorem dX9_callBackBut_73 : decode cX9_callBackBut 73 = .ok (.invokevirtual 75, 3) := by decide +kernel
theorem dX9_callBackBut_76 : decode cX9_callBackBut 76 = .ok (.iload 4, 2) := by decide +kernel
theorem dX9_callBackBut_78 : decode cX9_callBackBut 78 = .ok (.iadd, 1) := by decide +kernel
theorem dX9_callBackBut_79 : decode cX9_callBackBut 79 = .ok (.invokevirtual 72, 3) := by decide +kernel
theorem dX9_callBackBut_82 : decode cX9_callBackBut 82 = .ok (.iinc 5 1, 3) := by decide +kernel
theorem dX9_callBackBut_85 : decode cX9_callBackBut 85 = .ok (.goto (-59), 3) := by decide +kernel
theorem dX9_callBackBut_88 : decode cX9_callBackBut 88 = .ok (.return_, 1) := by decide +kernel
theorem dX9_returned_0 : decode cX9_returned 0 = .ok (.aload_n 0, 1) := by decide +kernel
theorem dX9_returned_1 : decode cX9_returned 1 = .ok (.iload_n 1, 1) := by decide +kernel
theorem dX9_returned_2 : decode cX9_returned 2 = .ok (.iload_n 2, 1) := by decide +kernel
theorem dX9_returned_3 : decode cX9_returned 3 = .ok (.iconst 0, 1) := by decide +kernel
theorem dX9_returned_4 : decode cX9_returned 4 = .ok (.invokevirtual 53, 3) := by decide +kernel
theorem dX9_returned_7 : decode cX9_returned 7 = .ok (.istore_n 3, 1) := by decide +kernel
theorem dX9_returned_8 : decode cX9_returned 8 = .ok (.aload_n 0, 1) := by decide +kernel
theorem dX9_returned_9 : decode cX9_returned 9 = .ok (.iload_n 1, 1) := by decide +kernel
theorem dX9_returned_10 : decode cX9_returned 10 = .ok (.iload_n 2, 1) := by decide +kernel
theorem dX9_returned_11 : decode cX9_returned 11 = .ok (.iconst 2, 1) := by decide +kernel
theorem dX9_returned_12 : decode cX9_returned 12 = .ok (.invokevirtual 53, 3) := by decide +kernel
theorem dX9_returned_15 : decode cX9_returned 15 = .ok (.istore 4, 2) := by decide +kernel
theorem dX9_returned_17 : decode cX9_returned 17 = .ok (.aload_n 0, 1) := by decide +kernel
theorem dX9_returned_18 : decode cX9_returned 18 = .ok (.iload_n 1, 1) := by decide +kernel
theorem dX9_returned_19 : decode cX9_returned 19 = .ok (.iload_n 2, 1) := by decide +kernel
theorem dX9_returned_20 : decode cX9_returned 20 = .ok (.invokevirtual 98, 3) := by decide +kernel
theorem dX9_returned_23 : decode cX9_returned 23 = .ok (.aload_n 0, 1) := by decide +kernel
theorem dX9_returned_24 : decode cX9_returned 24 = .ok (.iload_n 1, 1) := by decide +kernel
theorem dX9_returned_25 : decode cX9_returned 25 = .ok (.iload_n 2, 1) := by decide +kernel
theorem dX9_returned_26 : decode cX9_returned 26 = .ok (.invokevirtual 65, 3) := by decide +kernel
theorem dX9_returned_29 : decode cX9_returned 29 = .ok (.iload 4, 2) := by decide +kernel
theorem dX9_returned_31 : decode cX9_returned 31 = .ok (.iconst 1, 1) := by decide +kernel
theorem dX9_returned_32 : decode cX9_returned 32 = .ok (.if_icmp .eq 13, 3) := by decide +kernel
theorem dX9_returned_35 : decode cX9_returned 35 = .ok (.aload_n 0, 1) := by decide +kernel
theorem dX9_returned_36 : decode cX9_returned 36 = .ok (.getfield 7, 3) := by decide +kernel
theorem dX9_returned_39 : decode cX9_returned 39 = .ok (.iconst 3, 1) := by decide +kernel
theorem dX9_returned_40 : decode cX9_returned 40 = .ok (.iaload, 1) := by decide +kernel
theorem dX9_returned_41 : decode cX9_returned 41 = .ok (.iconst 1, 1) := by decide +kernel
theorem dX9_returned_42 : decode cX9_returned 42 = .ok (.if_icmp .ne 19, 3) := by decide +kernel
theorem dX9_returned_45 : decode cX9_returned 45 = .ok (.aload_n 0, 1) := by decide +kernel
theorem dX9_returned_46 : decode cX9_returned 46 = .ok (.getfield 7, 3) := by decide +kernel
theorem dX9_returned_49 : decode cX9_returned 49 = .ok (.iconst 4, 1) := by decide +kernel
theorem dX9_returned_50 : decode cX9_returned 50 = .ok (.dup2, 1) := by decide +kernel
theorem dX9_returned_51 : decode cX9_returned 51 = .ok (.iaload, 1) := by decide +kernel
theorem dX9_returned_52 : decode cX9_returned 52 = .ok (.iconst 1, 1) := by decide +kernel
theorem dX9_returned_53 : decode cX9_returned 53 = .ok (.iadd, 1) := by decide +kernel
theorem dX9_returned_54 : decode cX9_returned 54 = .ok (.iastore, 1) := by decide +kernel
theorem dX9_returned_55 : decode cX9_returned 55 = .ok (.aload_n 0, 1) := by decide +kernel
theorem dX9_returned_56 : decode cX9_returned 56 = .ok (.iload_n 3, 1) := by decide +kernel
theorem dX9_returned_57 : decode cX9_returned 57 = .ok (.iload_n 1, 1) := by decide +kernel
theorem dX9_returned_58 : decode cX9_returned 58 = .ok (.invokevirtual 107, 3) := by decide +kernel
theorem dX9_returned_61 : decode cX9_returned 61 = .ok (.iload 4, 2) := by decide +kernel
theorem dX9_returned_63 : decode cX9_returned 63 = .ok (.ireturn, 1) := by decide +kernel
theorem dX9_makeRoom_0 : decode cX9_makeRoom 0 = .ok (.aload_n 0, 1) := by decide +kernel
theorem dX9_makeRoom_1 : decode cX9_makeRoom 1 = .ok (.iload_n 1, 1) := by decide +kernel
theorem dX9_makeRoom_2 : decode cX9_makeRoom 2 = .ok (.iconst 0, 1) := by decide +kernel
theorem dX9_makeRoom_3 : decode cX9_makeRoom 3 = .ok (.invokevirtual 49, 3) := by decide +kernel
theorem dX9_makeRoom_6 : decode cX9_makeRoom 6 = .ok (.aload_n 0, 1) := by decide +kernel
theorem dX9_makeRoom_7 : decode cX9_makeRoom 7 = .ok (.getfield 7, 3) := by decide +kernel
theorem dX9_makeRoom_10 : decode cX9_makeRoom 10 = .ok (.iconst 2, 1) := by decide +kernel
theorem dX9_makeRoom_11 : decode cX9_makeRoom 11 = .ok (.iaload, 1) := by decide +kernel
theorem dX9_makeRoom_12 : decode cX9_makeRoom 12 = .ok (.if_icmp .lt 13, 3) := by decide +kernel
theorem dX9_makeRoom_15 : decode cX9_makeRoom 15 = .ok (.aload_n 0, 1) := by decide +kernel
theorem dX9_makeRoom_16 : decode cX9_makeRoom 16 = .ok (.iload_n 1, 1) := by decide +kernel
theorem dX9_makeRoom_17 : decode cX9_makeRoom 17 = .ok (.iconst 0, 1) := by decide +kernel
theorem dX9_makeRoom_18 : decode cX9_makeRoom 18 = .ok (.invokevirtual 110, 3) := by decide +kernel
theorem dX9_makeRoom_21 : decode cX9_makeRoom 21 = .ok (.pop, 1) := by decide +kernel
theorem dX9_makeRoom_22 : decode cX9_makeRoom 22 = .ok (.goto (-22), 3) := by decide +kernel
theorem dX9_makeRoom_25 : decode cX9_makeRoom 25 = .ok (.return_, 1) := by decide +kernel
theorem dX9_ask_0 : decode cX9_ask 0 = .ok (.aload_n 0, 1) := by decide +kernel
theorem dX9_ask_1 : decode cX9_ask 1 = .ok (.iload_n 1, 1) := by decide +kernel
theorem dX9_ask_2 : decode cX9_ask 2 = .ok (.invokevirtual 113, 3) := by decide +kernel
theorem dX9_ask_5 : decode cX9_ask 5 = .ok (.aload_n 0, 1) := by decide +kernel
theorem dX9_ask_6 : decode cX9_ask 6 = .ok (.iload_n 1, 1) := by decide +kernel
theorem dX9_ask_7 : decode cX9_ask 7 = .ok (.iload_n 2, 1) := by decide +kernel
theorem dX9_ask_8 : decode cX9_ask 8 = .ok (.aload_n 0, 1) := by decide +kernel
theorem dX9_ask_9 : decode cX9_ask 9 = .ok (.iload_n 2, 1) := by decide +kernel
theorem dX9_ask_10 : decode cX9_ask 10 = .ok (.iconst 0, 1) := by decide +kernel
theorem dX9_ask_11 : decode cX9_ask 11 = .ok (.invokevirtual 75, 3) := by decide +kernel
theorem dX9_ask_14 : decode cX9_ask 14 = .ok (.iconst 0, 1) := by decide +kernel
theorem dX9_ask_15 : decode cX9_ask 15 = .ok (.invokevirtual 69, 3) := by decide +kernel
theorem dX9_ask_18 : decode cX9_ask 18 = .ok (.aload_n 0, 1) := by decide +kernel
theorem dX9_ask_19 : decode cX9_ask 19 = .ok (.getfield 7, 3) := by decide +kernel
theorem dX9_ask_22 : decode cX9_ask 22 = .ok (.iconst 4, 1) := by decide +kernel
theorem dX9_ask_23 : decode cX9_ask 23 = .ok (.dup2, 1) := by decide +kernel
theorem dX9_ask_24 : decode cX9_ask 24 = .ok (.iaload, 1) := by decide +kernel
theorem dX9_ask_25 : decode cX9_ask 25 = .ok (.iconst 2, 1) := by decide +kernel
theorem dX9_ask_26 : decode cX9_ask 26 = .ok (.iadd, 1) := by decide +kernel
theorem dX9_ask_27 : decode cX9_ask 27 = .ok (.iastore, 1) := by decide +kernel
theorem dX9_ask_28 : decode cX9_ask 28 = .ok (.return_, 1) := by decide +kernel
theorem dX9_reads_0 : decode cX9_reads 0 = .ok (.aload_n 0, 1) := by decide +kernel
theorem dX9_reads_1 : decode cX9_reads 1 = .ok (.iload_n 1, 1) := by decide +kernel
theorem dX9_reads_2 : decode cX9_reads 2 = .ok (.iconst 1, 1) := by decide +kernel
theorem dX9_reads_3 : decode cX9_reads 3 = .ok (.iconst 1, 1) := by decide +kernel
theorem dX9_reads_4 : decode cX9_reads 4 = .ok (.invokevirtual 57, 3) := by decide +kernel
theorem dX9_reads_7 : decode cX9_reads 7 = .ok (.aload_n 0, 1) := by decide +kernel
theorem dX9_reads_8 : decode cX9_reads 8 = .ok (.iload_n 1, 1) := by decide +kernel
theorem dX9_reads_9 : decode cX9_reads 9 = .ok (.iload_n 2, 1) := by decide +kernel
theorem dX9_reads_10 : decode cX9_reads 10 = .ok (.invokevirtual 95, 3) := by decide +kernel
theorem dX9_reads_13 : decode cX9_reads 13 = .ok (.istore_n 3, 1) := by decide +kernel
theorem dX9_reads_14 : decode cX9_reads 14 = .ok (.iload_n 3, 1) := by decide +kernel
theorem dX9_reads_15 : decode cX9_reads 15 = .ok (.ifCond .lt 19, 3) := by decide +kernel
theorem dX9_reads_18 : decode cX9_reads 18 = .ok (.aload_n 0, 1) := by decide +kernel
theorem dX9_reads_19 : decode cX9_reads 19 = .ok (.iload_n 1, 1) := by decide +kernel
theorem dX9_reads_20 : decode cX9_reads 20 = .ok (.iload_n 3, 1) := by decide +kernel
theorem dX9_reads_21 : decode cX9_reads 21 = .ok (.invokevirtual 117, 3) := by decide +kernel
theorem dX9_reads_24 : decode cX9_reads 24 = .ok (.aload_n 0, 1) := by decide +kernel
theorem dX9_reads_25 : decode cX9_reads 25 = .ok (.iload_n 1, 1) := by decide +kernel
theorem dX9_reads_26 : decode cX9_reads 26 = .ok (.iconst 2, 1) := by decide +kernel
theorem dX9_reads_27 : decode cX9_reads 27 = .ok (.iconst 1, 1) := by decide +kernel
theorem dX9_reads_28 : decode cX9_reads 28 = .ok (.invokevirtual 57, 3) := by decide +kernel
theorem dX9_reads_31 : decode cX9_reads 31 = .ok (.goto 38, 3) := by decide +kernel
theorem dX9_reads_34 : decode cX9_reads 34 = .ok (.aload_n 0, 1) := by decide +kernel
theorem dX9_reads_35 : decode cX9_reads 35 = .ok (.iload_n 2, 1) := by decide +kernel
theorem dX9_reads_36 : decode cX9_reads 36 = .ok (.iconst 1, 1) := by decide +kernel
theorem dX9_reads_37 : decode cX9_reads 37 = .ok (.invokevirtual 75, 3) := by decide +kernel
theorem dX9_reads_40 : decode cX9_reads 40 = .ok (.iconst 3, 1) := by decide +kernel
theorem dX9_reads_41 : decode cX9_reads 41 = .ok (.if_icmp .ne 16, 3) := by decide +kernel
theorem dX9_reads_44 : decode cX9_reads 44 = .ok (.aload_n 0, 1) := by decide +kernel
theorem dX9_reads_45 : decode cX9_reads 45 = .ok (.iload_n 2, 1) := by decide +kernel
theorem dX9_reads_46 : decode cX9_reads 46 = .ok (.iload_n 1, 1) := by decide +kernel
theorem dX9_reads_47 : decode cX9_reads 47 = .ok (.invokevirtual 120, 3) := by decide +kernel
theorem dX9_reads_50 : decode cX9_reads 50 = .ok (.aload_n 0, 1) := by decide +kernel
theorem dX9_reads_51 : decode cX9_reads 51 = .ok (.iload_n 2, 1) := by decide +kernel
theorem dX9_reads_52 : decode cX9_reads 52 = .ok (.iconst 0, 1) := by decide +kernel
theorem dX9_reads_53 : decode cX9_reads 53 = .ok (.iconst 0, 1) := by decide +kernel
theorem dX9_reads_54 : decode cX9_reads 54 = .ok (.invokevirtual 86, 3) := by decide +kernel
theorem dX9_reads_57 : decode cX9_reads 57 = .ok (.aload_n 0, 1) := by decide +kernel
theorem dX9_reads_58 : decode cX9_reads 58 = .ok (.iload_n 1, 1) := by decide +kernel
theorem dX9_reads_59 : decode cX9_reads 59 = .ok (.iload_n 2, 1) := by decide +kernel
theorem dX9_reads_60 : decode cX9_reads 60 = .ok (.invokevirtual 123, 3) := by decide +kernel
theorem dX9_reads_63 : decode cX9_reads 63 = .ok (.aload_n 0, 1) := by decide +kernel
theorem dX9_reads_64 : decode cX9_reads 64 = .ok (.iload_n 2, 1) := by decide +kernel
theorem dX9_reads_65 : decode cX9_reads 65 = .ok (.iload_n 1, 1) := by decide +kernel
theorem dX9_reads_66 : decode cX9_reads 66 = .ok (.invokevirtual 126, 3) := by decide +kernel
theorem dX9_reads_69 : decode cX9_reads 69 = .ok (.aload_n 0, 1) := by decide +kernel
theorem dX9_reads_70 : decode cX9_reads 70 = .ok (.iload_n 1, 1) := by decide +kernel
theorem dX9_reads_71 : decode cX9_reads 71 = .ok (.aload_n 0, 1) := by decide +kernel
theorem dX9_reads_72 : decode cX9_reads 72 = .ok (.iload_n 1, 1) := by decide +kernel
theorem dX9_reads_73 : decode cX9_reads 73 = .ok (.iconst 0, 1) := by decide +kernel
theorem dX9_reads_74 : decode cX9_reads 74 = .ok (.invokevirtual 49, 3) := by decide +kernel
theorem dX9_reads_77 : decode cX9_reads 77 = .ok (.iconst 1, 1) := by decide +kernel
theorem dX9_reads_78 : decode cX9_reads 78 = .ok (.isub, 1) := by decide +kernel
theorem dX9_reads_79 : decode cX9_reads 79 = .ok (.iconst 1, 1) := by decide +kernel
theorem dX9_reads_80 : decode cX9_reads 80 = .ok (.invokevirtual 53, 3) := by decide +kernel
theorem dX9_reads_83 : decode cX9_reads 83 = .ok (.ireturn, 1) := by decide +kernel
theorem dX9_changes_0 : decode cX9_changes 0 = .ok (.aload_n 0, 1) := by decide +kernel
theorem dX9_changes_1 : decode cX9_changes 1 = .ok (.getfield 7, 3) := by decide +kernel
theorem dX9_changes_4 : decode cX9_changes 4 = .ok (.iconst 4, 1) := by decide +kernel
theorem dX9_changes_5 : decode cX9_changes 5 = .ok (.iaload, 1) := by decide +kernel
theorem dX9_changes_6 : decode cX9_changes 6 = .ok (.istore 4, 2) := by decide +kernel
theorem dX9_changes_8 : decode cX9_changes 8 = .ok (.aload_n 0, 1) := by decide +kernel
theorem dX9_changes_9 : decode cX9_changes 9 = .ok (.iload_n 1, 1) := by decide +kernel
theorem dX9_changes_10 : decode cX9_changes 10 = .ok (.iconst 1, 1) := by decide +kernel
theorem dX9_changes_11 : decode cX9_changes 11 = .ok (.iconst 1, 1) := by decide +kernel
theorem dX9_changes_12 : decode cX9_changes 12 = .ok (.invokevirtual 57, 3) := by decide +kernel
theorem dX9_changes_15 : decode cX9_changes 15 = .ok (.aload_n 0, 1) := by decide +kernel
theorem dX9_changes_16 : decode cX9_changes 16 = .ok (.iload_n 2, 1) := by decide +kernel
theorem dX9_changes_17 : decode cX9_changes 17 = .ok (.iconst 1, 1) := by decide +kernel
theorem dX9_changes_18 : decode cX9_changes 18 = .ok (.invokevirtual 75, 3) := by decide +kernel
theorem dX9_changes_21 : decode cX9_changes 21 = .ok (.iconst 3, 1) := by decide +kernel
theorem dX9_changes_22 : decode cX9_changes 22 = .ok (.if_icmp .ne 37, 3) := by decide +kernel
theorem dX9_changes_25 : decode cX9_changes 25 = .ok (.aload_n 0, 1) := by decide +kernel
theorem dX9_changes_26 : decode cX9_changes 26 = .ok (.iload_n 2, 1) := by decide +kernel
theorem dX9_changes_27 : decode cX9_changes 27 = .ok (.iconst 2, 1) := by decide +kernel
theorem dX9_changes_28 : decode cX9_changes 28 = .ok (.invokevirtual 75, 3) := by decide +kernel
theorem dX9_changes_31 : decode cX9_changes 31 = .ok (.iload_n 1, 1) := by decide +kernel
theorem dX9_changes_32 : decode cX9_changes 32 = .ok (.invokestatic 82, 3) := by decide +kernel
theorem dX9_changes_35 : decode cX9_changes 35 = .ok (.ifCond .eq 24, 3) := by decide +kernel
theorem dX9_changes_38 : decode cX9_changes 38 = .ok (.aload_n 0, 1) := by decide +kernel
theorem dX9_changes_39 : decode cX9_changes 39 = .ok (.iload_n 1, 1) := by decide +kernel
theorem dX9_changes_40 : decode cX9_changes 40 = .ok (.aload_n 0, 1) := by decide +kernel
theorem dX9_changes_41 : decode cX9_changes 41 = .ok (.iload_n 1, 1) := by decide +kernel
theorem dX9_changes_42 : decode cX9_changes 42 = .ok (.iload_n 2, 1) := by decide +kernel
theorem dX9_changes_43 : decode cX9_changes 43 = .ok (.invokevirtual 95, 3) := by decide +kernel
theorem dX9_changes_46 : decode cX9_changes 46 = .ok (.invokevirtual 117, 3) := by decide +kernel
theorem dX9_changes_49 : decode cX9_changes 49 = .ok (.aload_n 0, 1) := by decide +kernel
theorem dX9_changes_50 : decode cX9_changes 50 = .ok (.iload_n 1, 1) := by decide +kernel
theorem dX9_changes_51 : decode cX9_changes 51 = .ok (.iconst 2, 1) := by decide +kernel
theorem dX9_changes_52 : decode cX9_changes 52 = .ok (.iconst 1, 1) := by decide +kernel
theorem dX9_changes_53 : decode cX9_changes 53 = .ok (.invokevirtual 57, 3) := by decide +kernel
theorem dX9_changes_56 : decode cX9_changes 56 = .ok (.goto 57, 3) := by decide +kernel
theorem dX9_changes_59 : decode cX9_changes 59 = .ok (.aload_n 0, 1) := by decide +kernel
theorem dX9_changes_60 : decode cX9_changes 60 = .ok (.iload_n 2, 1) := by decide +kernel
theorem dX9_changes_61 : decode cX9_changes 61 = .ok (.iload_n 1, 1) := by decide +kernel
theorem dX9_changes_62 : decode cX9_changes 62 = .ok (.invokevirtual 120, 3) := by decide +kernel
theorem dX9_changes_65 : decode cX9_changes 65 = .ok (.aload_n 0, 1) := by decide +kernel
theorem dX9_changes_66 : decode cX9_changes 66 = .ok (.iload_n 1, 1) := by decide +kernel
theorem dX9_changes_67 : decode cX9_changes 67 = .ok (.iload_n 2, 1) := by decide +kernel
theorem dX9_changes_68 : decode cX9_changes 68 = .ok (.invokevirtual 95, 3) := by decide +kernel
theorem dX9_changes_71 : decode cX9_changes 71 = .ok (.ifCond .ge 12, 3) := by decide +kernel
theorem dX9_changes_74 : decode cX9_changes 74 = .ok (.aload_n 0, 1) := by decide +kernel
theorem dX9_changes_75 : decode cX9_changes 75 = .ok (.iload_n 1, 1) := by decide +kernel
theorem dX9_changes_76 : decode cX9_changes 76 = .ok (.iload_n 2, 1) := by decide +kernel
theorem dX9_changes_77 : decode cX9_changes 77 = .ok (.invokevirtual 123, 3) := by decide +kernel
theorem dX9_changes_80 : decode cX9_changes 80 = .ok (.goto 24, 3) := by decide +kernel
theorem dX9_changes_83 : decode cX9_changes 83 = .ok (.aload_n 0, 1) := by decide +kernel
theorem dX9_changes_84 : decode cX9_changes 84 = .ok (.iload_n 1, 1) := by decide +kernel
theorem dX9_changes_85 : decode cX9_changes 85 = .ok (.aload_n 0, 1) := by decide +kernel
theorem dX9_changes_86 : decode cX9_changes 86 = .ok (.iload_n 1, 1) := by decide +kernel
theorem dX9_changes_87 : decode cX9_changes 87 = .ok (.iload_n 2, 1) := by decide +kernel
theorem dX9_changes_88 : decode cX9_changes 88 = .ok (.invokevirtual 95, 3) := by decide +kernel
theorem dX9_changes_91 : decode cX9_changes 91 = .ok (.invokevirtual 117, 3) := by decide +kernel
theorem dX9_changes_94 : decode cX9_changes 94 = .ok (.aload_n 0, 1) := by decide +kernel
theorem dX9_changes_95 : decode cX9_changes 95 = .ok (.getfield 7, 3) := by decide +kernel
theorem dX9_changes_98 : decode cX9_changes 98 = .ok (.iconst 4, 1) := by decide +kernel
theorem dX9_changes_99 : decode cX9_changes 99 = .ok (.dup2, 1) := by decide +kernel
theorem dX9_changes_100 : decode cX9_changes 100 = .ok (.iaload, 1) := by decide +kernel
theorem dX9_changes_101 : decode cX9_changes 101 = .ok (.iconst 2, 1) := by decide +kernel
theorem dX9_changes_102 : decode cX9_changes 102 = .ok (.iadd, 1) := by decide +kernel
theorem dX9_changes_103 : decode cX9_changes 103 = .ok (.iastore, 1) := by decide +kernel
theorem dX9_changes_104 : decode cX9_changes 104 = .ok (.aload_n 0, 1) := by decide +kernel
theorem dX9_changes_105 : decode cX9_changes 105 = .ok (.iload_n 2, 1) := by decide +kernel
theorem dX9_changes_106 : decode cX9_changes 106 = .ok (.iconst 3, 1) := by decide +kernel
theorem dX9_changes_107 : decode cX9_changes 107 = .ok (.iconst 1, 1) := by decide +kernel
theorem dX9_changes_108 : decode cX9_changes 108 = .ok (.iload_n 1, 1) := by decide +kernel
theorem dX9_changes_109 : decode cX9_changes 109 = .ok (.ishl, 1) := by decide +kernel
theorem dX9_changes_110 : decode cX9_changes 110 = .ok (.invokevirtual 86, 3) := by decide +kernel
theorem dX9_changes_113 : decode cX9_changes 113 = .ok (.aload_n 0, 1) := by decide +kernel
theorem dX9_changes_114 : decode cX9_changes 114 = .ok (.iload_n 1, 1) := by decide +kernel
theorem dX9_changes_115 : decode cX9_changes 115 = .ok (.iconst 0, 1) := by decide +kernel
theorem dX9_changes_116 : decode cX9_changes 116 = .ok (.invokevirtual 49, 3) := by decide +kernel
theorem dX9_changes_119 : decode cX9_changes 119 = .ok (.iconst 1, 1) := by decide +kernel
theorem dX9_changes_120 : decode cX9_changes 120 = .ok (.isub, 1) := by decide +kernel
theorem dX9_changes_121 : decode cX9_changes 121 = .ok (.istore 5, 2) := by decide +kernel
theorem dX9_changes_123 : decode cX9_changes 123 = .ok (.aload_n 0, 1) := by decide +kernel
theorem dX9_changes_124 : decode cX9_changes 124 = .ok (.iload_n 1, 1) := by decide +kernel
theorem dX9_changes_125 : decode cX9_changes 125 = .ok (.iload 5, 2) := by decide +kernel
theorem dX9_changes_127 : decode cX9_changes 127 = .ok (.iconst 1, 1) := by decide +kernel
theorem dX9_changes_128 : decode cX9_changes 128 = .ok (.iload_n 3, 1) := by decide +kernel
theorem dX9_changes_129 : decode cX9_changes 129 = .ok (.invokevirtual 61, 3) := by decide +kernel
theorem dX9_changes_132 : decode cX9_changes 132 = .ok (.aload_n 0, 1) := by decide +kernel
theorem dX9_changes_133 : decode cX9_changes 133 = .ok (.iload_n 1, 1) := by decide +kernel
theorem dX9_changes_134 : decode cX9_changes 134 = .ok (.iload 5, 2) := by decide +kernel
theorem dX9_changes_136 : decode cX9_changes 136 = .ok (.iconst 2, 1) := by decide +kernel
theorem dX9_changes_137 : decode cX9_changes 137 = .ok (.iconst 1, 1) := by decide +kernel
theorem dX9_changes_138 : decode cX9_changes 138 = .ok (.invokevirtual 61, 3) := by decide +kernel
theorem dX9_changes_141 : decode cX9_changes 141 = .ok (.aload_n 0, 1) := by decide +kernel
theorem dX9_changes_142 : decode cX9_changes 142 = .ok (.getfield 7, 3) := by decide +kernel
theorem dX9_changes_145 : decode cX9_changes 145 = .ok (.iconst 4, 1) := by decide +kernel
theorem dX9_changes_146 : decode cX9_changes 146 = .ok (.iaload, 1) := by decide +kernel
theorem dX9_changes_147 : decode cX9_changes 147 = .ok (.iload 4, 2) := by decide +kernel
theorem dX9_changes_149 : decode cX9_changes 149 = .ok (.isub, 1) := by decide +kernel
theorem dX9_changes_150 : decode cX9_changes 150 = .ok (.ireturn, 1) := by decide +kernel
theorem dX9_enter_0 : decode cX9_enter 0 = .ok (.aload_n 0, 1) := by decide +kernel
theorem dX9_enter_1 : decode cX9_enter 1 = .ok (.getfield 7, 3) := by decide +kernel
theorem dX9_enter_4 : decode cX9_enter 4 = .ok (.bipush 7, 2) := by decide +kernel
theorem dX9_enter_6 : decode cX9_enter 6 = .ok (.iaload, 1) := by decide +kernel
theorem dX9_enter_7 : decode cX9_enter 7 = .ok (.bipush 60, 2) := by decide +kernel
theorem dX9_enter_9 : decode cX9_enter 9 = .ok (.if_icmp .ne 57, 3) := by decide +kernel
theorem dX9_enter_12 : decode cX9_enter 12 = .ok (.aload_n 0, 1) := by decide +kernel
theorem dX9_enter_13 : decode cX9_enter 13 = .ok (.getfield 7, 3) := by decide +kernel
theorem dX9_enter_16 : decode cX9_enter 16 = .ok (.bipush 7, 2) := by decide +kernel
theorem dX9_enter_18 : decode cX9_enter 18 = .ok (.dup2, 1) := by decide +kernel
theorem dX9_enter_19 : decode cX9_enter 19 = .ok (.iaload, 1) := by decide +kernel
theorem dX9_enter_20 : decode cX9_enter 20 = .ok (.iconst 1, 1) := by decide +kernel
theorem dX9_enter_21 : decode cX9_enter 21 = .ok (.isub, 1) := by decide +kernel
theorem dX9_enter_22 : decode cX9_enter 22 = .ok (.iastore, 1) := by decide +kernel
theorem dX9_enter_23 : decode cX9_enter 23 = .ok (.sipush 592, 3) := by decide +kernel
theorem dX9_enter_26 : decode cX9_enter 26 = .ok (.istore 4, 2) := by decide +kernel
theorem dX9_enter_28 : decode cX9_enter 28 = .ok (.iload 4, 2) := by decide +kernel
theorem dX9_enter_30 : decode cX9_enter 30 = .ok (.sipush 592, 3) := by decide +kernel
theorem dX9_enter_33 : decode cX9_enter 33 = .ok (.aload_n 0, 1) := by decide +kernel
theorem dX9_enter_34 : decode cX9_enter 34 = .ok (.getfield 7, 3) := by decide +kernel
theorem dX9_enter_37 : decode cX9_enter 37 = .ok (.bipush 7, 2) := by decide +kernel
theorem dX9_enter_39 : decode cX9_enter 39 = .ok (.iaload, 1) := by decide +kernel
theorem dX9_enter_40 : decode cX9_enter 40 = .ok (.iadd, 1) := by decide +kernel
theorem dX9_enter_41 : decode cX9_enter 41 = .ok (.if_icmp .ge 25, 3) := by decide +kernel
theorem dX9_enter_44 : decode cX9_enter 44 = .ok (.aload_n 0, 1) := by decide +kernel
theorem dX9_enter_45 : decode cX9_enter 45 = .ok (.getfield 7, 3) := by decide +kernel
theorem dX9_enter_48 : decode cX9_enter 48 = .ok (.iload 4, 2) := by decide +kernel
theorem dX9_enter_50 : decode cX9_enter 50 = .ok (.aload_n 0, 1) := by decide +kernel
theorem dX9_enter_51 : decode cX9_enter 51 = .ok (.getfield 7, 3) := by decide +kernel
theorem dX9_enter_54 : decode cX9_enter 54 = .ok (.iload 4, 2) := by decide +kernel
theorem dX9_enter_56 : decode cX9_enter 56 = .ok (.iconst 1, 1) := by decide +kernel
theorem dX9_enter_57 : decode cX9_enter 57 = .ok (.iadd, 1) := by decide +kernel
theorem dX9_enter_58 : decode cX9_enter 58 = .ok (.iaload, 1) := by decide +kernel
theorem dX9_enter_59 : decode cX9_enter 59 = .ok (.iastore, 1) := by decide +kernel
theorem dX9_enter_60 : decode cX9_enter 60 = .ok (.iinc 4 1, 3) := by decide +kernel
theorem dX9_enter_63 : decode cX9_enter 63 = .ok (.goto (-35), 3) := by decide +kernel
theorem dX9_enter_66 : decode cX9_enter 66 = .ok (.aload_n 0, 1) := by decide +kernel
theorem dX9_enter_67 : decode cX9_enter 67 = .ok (.getfield 7, 3) := by decide +kernel
theorem dX9_enter_70 : decode cX9_enter 70 = .ok (.sipush 592, 3) := by decide +kernel
theorem dX9_enter_73 : decode cX9_enter 73 = .ok (.aload_n 0, 1) := by decide +kernel
theorem dX9_enter_74 : decode cX9_enter 74 = .ok (.getfield 7, 3) := by decide +kernel
theorem dX9_enter_77 : decode cX9_enter 77 = .ok (.bipush 7, 2) := by decide +kernel
theorem dX9_enter_79 : decode cX9_enter 79 = .ok (.iaload, 1) := by decide +kernel
theorem dX9_enter_80 : decode cX9_enter 80 = .ok (.iadd, 1) := by decide +kernel
theorem dX9_enter_81 : decode cX9_enter 81 = .ok (.iconst 2, 1) := by decide +kernel
theorem dX9_enter_82 : decode cX9_enter 82 = .ok (.bipush 24, 2) := by decide +kernel
theorem dX9_enter_84 : decode cX9_enter 84 = .ok (.iload_n 1, 1) := by decide +kernel
theorem dX9_enter_85 : decode cX9_enter 85 = .ok (.imul, 1) := by decide +kernel
theorem dX9_enter_86 : decode cX9_enter 86 = .ok (.iload_n 2, 1) := by decide +kernel
theorem dX9_enter_87 : decode cX9_enter 87 = .ok (.iadd, 1) := by decide +kernel
theorem dX9_enter_88 : decode cX9_enter 88 = .ok (.imul, 1) := by decide +kernel
theorem dX9_enter_89 : decode cX9_enter 89 = .ok (.iload_n 3, 1) := by decide +kernel
theorem dX9_enter_90 : decode cX9_enter 90 = .ok (.iadd, 1) := by decide +kernel
theorem dX9_enter_91 : decode cX9_enter 91 = .ok (.iastore, 1) := by decide +kernel
theorem dX9_enter_92 : decode cX9_enter 92 = .ok (.aload_n 0, 1) := by decide +kernel
theorem dX9_enter_93 : decode cX9_enter 93 = .ok (.getfield 7, 3) := by decide +kernel
theorem dX9_enter_96 : decode cX9_enter 96 = .ok (.bipush 7, 2) := by decide +kernel
theorem dX9_enter_98 : decode cX9_enter 98 = .ok (.dup2, 1) := by decide +kernel
theorem dX9_enter_99 : decode cX9_enter 99 = .ok (.iaload, 1) := by decide +kernel
theorem dX9_enter_100 : decode cX9_enter 100 = .ok (.iconst 1, 1) := by decide +kernel
theorem dX9_enter_101 : decode cX9_enter 101 = .ok (.iadd, 1) := by decide +kernel
theorem dX9_enter_102 : decode cX9_enter 102 = .ok (.iastore, 1) := by decide +kernel
theorem dX9_enter_103 : decode cX9_enter 103 = .ok (.return_, 1) := by decide +kernel
theorem dX9_tryRead_0 : decode cX9_tryRead 0 = .ok (.iload_n 1, 1) := by decide +kernel
theorem dX9_tryRead_1 : decode cX9_tryRead 1 = .ok (.invokestatic 129, 3) := by decide +kernel
theorem dX9_tryRead_4 : decode cX9_tryRead 4 = .ok (.ifCond .eq 10, 3) := by decide +kernel
theorem dX9_tryRead_7 : decode cX9_tryRead 7 = .ok (.iload_n 2, 1) := by decide +kernel
theorem dX9_tryRead_8 : decode cX9_tryRead 8 = .ok (.invokestatic 133, 3) := by decide +kernel
theorem dX9_tryRead_11 : decode cX9_tryRead 11 = .ok (.ifCond .ne 5, 3) := by decide +kernel
theorem dX9_tryRead_14 : decode cX9_tryRead 14 = .ok (.iconst (-1), 1) := by decide +kernel
theorem dX9_tryRead_15 : decode cX9_tryRead 15 = .ok (.ireturn, 1) := by decide +kernel
theorem dX9_tryRead_16 : decode cX9_tryRead 16 = .ok (.aload_n 0, 1) := by decide +kernel
theorem dX9_tryRead_17 : decode cX9_tryRead 17 = .ok (.iload_n 3, 1) := by decide +kernel
theorem dX9_tryRead_18 : decode cX9_tryRead 18 = .ok (.invokevirtual 136, 3) := by decide +kernel
theorem dX9_tryRead_21 : decode cX9_tryRead 21 = .ok (.aload_n 0, 1) := by decide +kernel
theorem dX9_tryRead_22 : decode cX9_tryRead 22 = .ok (.iload_n 1, 1) := by decide +kernel
theorem dX9_tryRead_23 : decode cX9_tryRead 23 = .ok (.iload_n 2, 1) := by decide +kernel
theorem dX9_tryRead_24 : decode cX9_tryRead 24 = .ok (.iconst 0, 1) := by decide +kernel
theorem dX9_tryRead_25 : decode cX9_tryRead 25 = .ok (.invokevirtual 140, 3) := by decide +kernel
theorem dX9_tryRead_28 : decode cX9_tryRead 28 = .ok (.aload_n 0, 1) := by decide +kernel
theorem dX9_tryRead_29 : decode cX9_tryRead 29 = .ok (.iload_n 1, 1) := by decide +kernel
theorem dX9_tryRead_30 : decode cX9_tryRead 30 = .ok (.iload_n 2, 1) := by decide +kernel
theorem dX9_tryRead_31 : decode cX9_tryRead 31 = .ok (.invokevirtual 143, 3) := by decide +kernel
theorem dX9_tryRead_34 : decode cX9_tryRead 34 = .ok (.ireturn, 1) := by decide +kernel
theorem dX9_read_0 : decode cX9_read 0 = .ok (.aload_n 0, 1) := by decide +kernel
theorem dX9_read_1 : decode cX9_read 1 = .ok (.iload_n 1, 1) := by decide +kernel
theorem dX9_read_2 : decode cX9_read 2 = .ok (.iload_n 2, 1) := by decide +kernel
theorem dX9_read_3 : decode cX9_read 3 = .ok (.iconst 1, 1) := by decide +kernel
theorem dX9_read_4 : decode cX9_read 4 = .ok (.invokevirtual 146, 3) := by decide +kernel
theorem dX9_read_7 : decode cX9_read 7 = .ok (.ireturn, 1) := by decide +kernel
theorem dX9_tryChange_0 : decode cX9_tryChange 0 = .ok (.iload_n 1, 1) := by decide +kernel
theorem dX9_tryChange_1 : decode cX9_tryChange 1 = .ok (.invokestatic 129, 3) := by decide +kernel
theorem dX9_tryChange_4 : decode cX9_tryChange 4 = .ok (.ifCond .eq 10, 3) := by decide +kernel
theorem dX9_tryChange_7 : decode cX9_tryChange 7 = .ok (.iload_n 2, 1) := by decide +kernel
theorem dX9_tryChange_8 : decode cX9_tryChange 8 = .ok (.invokestatic 133, 3) := by decide +kernel
theorem dX9_tryChange_11 : decode cX9_tryChange 11 = .ok (.ifCond .ne 5, 3) := by decide +kernel
theorem dX9_tryChange_14 : decode cX9_tryChange 14 = .ok (.iconst (-1), 1) := by decide +kernel
theorem dX9_tryChange_15 : decode cX9_tryChange 15 = .ok (.ireturn, 1) := by decide +kernel
theorem dX9_tryChange_16 : decode cX9_tryChange 16 = .ok (.iload_n 3, 1) := by decide +kernel
theorem dX9_tryChange_17 : decode cX9_tryChange 17 = .ok (.iconst 0, 1) := by decide +kernel
theorem dX9_tryChange_18 : decode cX9_tryChange 18 = .ok (.sipush 9999, 3) := by decide +kernel
theorem dX9_tryChange_21 : decode cX9_tryChange 21 = .ok (.invokestatic 35, 3) := by decide +kernel
theorem dX9_tryChange_24 : decode cX9_tryChange 24 = .ok (.ifCond .ne 6, 3) := by decide +kernel
theorem dX9_tryChange_27 : decode cX9_tryChange 27 = .ok (.bipush (-2), 2) := by decide +kernel
theorem dX9_tryChange_29 : decode cX9_tryChange 29 = .ok (.ireturn, 1) := by decide +kernel
theorem dX9_tryChange_30 : decode cX9_tryChange 30 = .ok (.aload_n 0, 1) := by decide +kernel
theorem dX9_tryChange_31 : decode cX9_tryChange 31 = .ok (.iload 4, 2) := by decide +kernel
theorem dX9_tryChange_33 : decode cX9_tryChange 33 = .ok (.invokevirtual 136, 3) := by decide +kernel
theorem dX9_tryChange_36 : decode cX9_tryChange 36 = .ok (.aload_n 0, 1) := by decide +kernel
theorem dX9_tryChange_37 : decode cX9_tryChange 37 = .ok (.iload_n 1, 1) := by decide +kernel
theorem dX9_tryChange_38 : decode cX9_tryChange 38 = .ok (.iload_n 2, 1) := by decide +kernel
theorem dX9_tryChange_39 : decode cX9_tryChange 39 = .ok (.iconst 1, 1) := by decide +kernel
theorem dX9_tryChange_40 : decode cX9_tryChange 40 = .ok (.invokevirtual 140, 3) := by decide +kernel
theorem dX9_tryChange_43 : decode cX9_tryChange 43 = .ok (.aload_n 0, 1) := by decide +kernel
theorem dX9_tryChange_44 : decode cX9_tryChange 44 = .ok (.iload_n 1, 1) := by decide +kernel
theorem dX9_tryChange_45 : decode cX9_tryChange 45 = .ok (.iload_n 2, 1) := by decide +kernel
theorem dX9_tryChange_46 : decode cX9_tryChange 46 = .ok (.iload_n 3, 1) := by decide +kernel
theorem dX9_tryChange_47 : decode cX9_tryChange 47 = .ok (.invokevirtual 150, 3) := by decide +kernel
theorem dX9_tryChange_50 : decode cX9_tryChange 50 = .ok (.ireturn, 1) := by decide +kernel
theorem dX9_change_0 : decode cX9_change 0 = .ok (.aload_n 0, 1) := by decide +kernel
theorem dX9_change_1 : decode cX9_change 1 = .ok (.iload_n 1, 1) := by decide +kernel
theorem dX9_change_2 : decode cX9_change 2 = .ok (.iload_n 2, 1) := by decide +kernel
theorem dX9_change_3 : decode cX9_change 3 = .ok (.iload_n 3, 1) := by decide +kernel
theorem dX9_change_4 : decode cX9_change 4 = .ok (.iconst 1, 1) := by decide +kernel
theorem dX9_change_5 : decode cX9_change 5 = .ok (.invokevirtual 153, 3) := by decide +kernel
theorem dX9_change_8 : decode cX9_change 8 = .ok (.ireturn, 1) := by decide +kernel
theorem dX9_tryPutBack_0 : decode cX9_tryPutBack 0 = .ok (.iload_n 1, 1) := by decide +kernel
theorem dX9_tryPutBack_1 : decode cX9_tryPutBack 1 = .ok (.invokestatic 129, 3) := by decide +kernel
theorem dX9_tryPutBack_4 : decode cX9_tryPutBack 4 = .ok (.ifCond .eq 10, 3) := by decide +kernel
theorem dX9_tryPutBack_7 : decode cX9_tryPutBack 7 = .ok (.iload_n 2, 1) := by decide +kernel
theorem dX9_tryPutBack_8 : decode cX9_tryPutBack 8 = .ok (.invokestatic 133, 3) := by decide +kernel
theorem dX9_tryPutBack_11 : decode cX9_tryPutBack 11 = .ok (.ifCond .ne 5, 3) := by decide +kernel
theorem dX9_tryPutBack_14 : decode cX9_tryPutBack 14 = .ok (.iconst (-1), 1) := by decide +kernel
theorem dX9_tryPutBack_15 : decode cX9_tryPutBack 15 = .ok (.ireturn, 1) := by decide +kernel
theorem dX9_tryPutBack_16 : decode cX9_tryPutBack 16 = .ok (.aload_n 0, 1) := by decide +kernel
theorem dX9_tryPutBack_17 : decode cX9_tryPutBack 17 = .ok (.iload_n 1, 1) := by decide +kernel
theorem dX9_tryPutBack_18 : decode cX9_tryPutBack 18 = .ok (.iload_n 2, 1) := by decide +kernel
theorem dX9_tryPutBack_19 : decode cX9_tryPutBack 19 = .ok (.invokevirtual 95, 3) := by decide +kernel
theorem dX9_tryPutBack_22 : decode cX9_tryPutBack 22 = .ok (.istore 4, 2) := by decide +kernel
theorem dX9_tryPutBack_24 : decode cX9_tryPutBack 24 = .ok (.iload 4, 2) := by decide +kernel
theorem dX9_tryPutBack_26 : decode cX9_tryPutBack 26 = .ok (.ifCond .ge 6, 3) := by decide +kernel
theorem dX9_tryPutBack_29 : decode cX9_tryPutBack 29 = .ok (.bipush (-5), 2) := by decide +kernel
theorem dX9_tryPutBack_31 : decode cX9_tryPutBack 31 = .ok (.ireturn, 1) := by decide +kernel
theorem dX9_tryPutBack_32 : decode cX9_tryPutBack 32 = .ok (.aload_n 0, 1) := by decide +kernel
theorem dX9_tryPutBack_33 : decode cX9_tryPutBack 33 = .ok (.iload_n 3, 1) := by decide +kernel
theorem dX9_tryPutBack_34 : decode cX9_tryPutBack 34 = .ok (.invokevirtual 136, 3) := by decide +kernel
theorem dX9_tryPutBack_37 : decode cX9_tryPutBack 37 = .ok (.aload_n 0, 1) := by decide +kernel
theorem dX9_tryPutBack_38 : decode cX9_tryPutBack 38 = .ok (.iload_n 1, 1) := by decide +kernel
theorem dX9_tryPutBack_39 : decode cX9_tryPutBack 39 = .ok (.iload 4, 2) := by decide +kernel
theorem dX9_tryPutBack_41 : decode cX9_tryPutBack 41 = .ok (.invokevirtual 110, 3) := by decide +kernel
theorem dX9_tryPutBack_44 : decode cX9_tryPutBack 44 = .ok (.ireturn, 1) := by decide +kernel
theorem dX9_putBack_0 : decode cX9_putBack 0 = .ok (.aload_n 0, 1) := by decide +kernel
theorem dX9_putBack_1 : decode cX9_putBack 1 = .ok (.iload_n 1, 1) := by decide +kernel
theorem dX9_putBack_2 : decode cX9_putBack 2 = .ok (.iload_n 2, 1) := by decide +kernel
theorem dX9_putBack_3 : decode cX9_putBack 3 = .ok (.iconst 1, 1) := by decide +kernel
theorem dX9_putBack_4 : decode cX9_putBack 4 = .ok (.invokevirtual 157, 3) := by decide +kernel
theorem dX9_putBack_7 : decode cX9_putBack 7 = .ok (.ireturn, 1) := by decide +kernel
theorem dX9_tryRecall_0 : decode cX9_tryRecall 0 = .ok (.iload_n 1, 1) := by decide +kernel
theorem dX9_tryRecall_1 : decode cX9_tryRecall 1 = .ok (.invokestatic 133, 3) := by decide +kernel
theorem dX9_tryRecall_4 : decode cX9_tryRecall 4 = .ok (.ifCond .ne 5, 3) := by decide +kernel
theorem dX9_tryRecall_7 : decode cX9_tryRecall 7 = .ok (.iconst (-1), 1) := by decide +kernel
theorem dX9_tryRecall_8 : decode cX9_tryRecall 8 = .ok (.ireturn, 1) := by decide +kernel
theorem dX9_tryRecall_9 : decode cX9_tryRecall 9 = .ok (.aload_n 0, 1) := by decide +kernel
theorem dX9_tryRecall_10 : decode cX9_tryRecall 10 = .ok (.iload_n 1, 1) := by decide +kernel
theorem dX9_tryRecall_11 : decode cX9_tryRecall 11 = .ok (.iconst 1, 1) := by decide +kernel
theorem dX9_tryRecall_12 : decode cX9_tryRecall 12 = .ok (.invokevirtual 75, 3) := by decide +kernel
theorem dX9_tryRecall_15 : decode cX9_tryRecall 15 = .ok (.ifCond .ne 6, 3) := by decide +kernel
theorem dX9_tryRecall_18 : decode cX9_tryRecall 18 = .ok (.bipush (-5), 2) := by decide +kernel
theorem dX9_tryRecall_20 : decode cX9_tryRecall 20 = .ok (.ireturn, 1) := by decide +kernel
theorem dX9_tryRecall_21 : decode cX9_tryRecall 21 = .ok (.aload_n 0, 1) := by decide +kernel
theorem dX9_tryRecall_22 : decode cX9_tryRecall 22 = .ok (.iload_n 2, 1) := by decide +kernel
theorem dX9_tryRecall_23 : decode cX9_tryRecall 23 = .ok (.invokevirtual 136, 3) := by decide +kernel
end
section
theorem dX9_tryRecall_26 : decode cX9_tryRecall 26 = .ok (.aload_n 0, 1) := by decide +kernel
theorem dX9_tryRecall_27 : decode cX9_tryRecall 27 = .ok (.iload_n 1, 1) := by decide +kernel
theorem dX9_tryRecall_28 : decode cX9_tryRecall 28 = .ok (.iconst 3, 1) := by decide +kernel
theorem dX9_tryRecall_29 : decode cX9_tryRecall 29 = .ok (.invokevirtual 75, 3) := by decide +kernel
theorem dX9_tryRecall_32 : decode cX9_tryRecall 32 = .ok (.istore_n 3, 1) := by decide +kernel
theorem dX9_tryRecall_33 : decode cX9_tryRecall 33 = .ok (.aload_n 0, 1) := by decide +kernel
theorem dX9_tryRecall_34 : decode cX9_tryRecall 34 = .ok (.iload_n 1, 1) := by decide +kernel
theorem dX9_tryRecall_35 : decode cX9_tryRecall 35 = .ok (.bipush (-6), 2) := by decide +kernel
theorem dX9_tryRecall_37 : decode cX9_tryRecall 37 = .ok (.invokevirtual 120, 3) := by decide +kernel
theorem dX9_tryRecall_40 : decode cX9_tryRecall 40 = .ok (.aload_n 0, 1) := by decide +kernel
theorem dX9_tryRecall_41 : decode cX9_tryRecall 41 = .ok (.iload_n 1, 1) := by decide +kernel
theorem dX9_tryRecall_42 : decode cX9_tryRecall 42 = .ok (.iconst 0, 1) := by decide +kernel
theorem dX9_tryRecall_43 : decode cX9_tryRecall 43 = .ok (.iconst 0, 1) := by decide +kernel
theorem dX9_tryRecall_44 : decode cX9_tryRecall 44 = .ok (.invokevirtual 86, 3) := by decide +kernel
theorem dX9_tryRecall_47 : decode cX9_tryRecall 47 = .ok (.aload_n 0, 1) := by decide +kernel
theorem dX9_tryRecall_48 : decode cX9_tryRecall 48 = .ok (.iload_n 1, 1) := by decide +kernel
theorem dX9_tryRecall_49 : decode cX9_tryRecall 49 = .ok (.iconst 3, 1) := by decide +kernel
theorem dX9_tryRecall_50 : decode cX9_tryRecall 50 = .ok (.invokevirtual 75, 3) := by decide +kernel
theorem dX9_tryRecall_53 : decode cX9_tryRecall 53 = .ok (.iload_n 3, 1) := by decide +kernel
theorem dX9_tryRecall_54 : decode cX9_tryRecall 54 = .ok (.isub, 1) := by decide +kernel
theorem dX9_tryRecall_55 : decode cX9_tryRecall 55 = .ok (.ireturn, 1) := by decide +kernel
theorem dX9_recall_0 : decode cX9_recall 0 = .ok (.aload_n 0, 1) := by decide +kernel
theorem dX9_recall_1 : decode cX9_recall 1 = .ok (.iload_n 1, 1) := by decide +kernel
theorem dX9_recall_2 : decode cX9_recall 2 = .ok (.iconst 1, 1) := by decide +kernel
theorem dX9_recall_3 : decode cX9_recall 3 = .ok (.invokevirtual 160, 3) := by decide +kernel
theorem dX9_recall_6 : decode cX9_recall 6 = .ok (.ireturn, 1) := by decide +kernel
theorem dX9_cardsThat_0 : decode cX9_cardsThat 0 = .ok (.iconst 0, 1) := by decide +kernel
theorem dX9_cardsThat_1 : decode cX9_cardsThat 1 = .ok (.istore_n 3, 1) := by decide +kernel
theorem dX9_cardsThat_2 : decode cX9_cardsThat 2 = .ok (.iconst 0, 1) := by decide +kernel
theorem dX9_cardsThat_3 : decode cX9_cardsThat 3 = .ok (.istore 4, 2) := by decide +kernel
theorem dX9_cardsThat_5 : decode cX9_cardsThat 5 = .ok (.iload 4, 2) := by decide +kernel
theorem dX9_cardsThat_7 : decode cX9_cardsThat 7 = .ok (.bipush 24, 2) := by decide +kernel
theorem dX9_cardsThat_9 : decode cX9_cardsThat 9 = .ok (.if_icmp .ge 32, 3) := by decide +kernel
theorem dX9_cardsThat_12 : decode cX9_cardsThat 12 = .ok (.iload_n 3, 1) := by decide +kernel
theorem dX9_cardsThat_13 : decode cX9_cardsThat 13 = .ok (.aload_n 0, 1) := by decide +kernel
theorem dX9_cardsThat_14 : decode cX9_cardsThat 14 = .ok (.iload 4, 2) := by decide +kernel
theorem dX9_cardsThat_16 : decode cX9_cardsThat 16 = .ok (.iconst 1, 1) := by decide +kernel
theorem dX9_cardsThat_17 : decode cX9_cardsThat 17 = .ok (.invokevirtual 75, 3) := by decide +kernel
theorem dX9_cardsThat_20 : decode cX9_cardsThat 20 = .ok (.iload_n 1, 1) := by decide +kernel
theorem dX9_cardsThat_21 : decode cX9_cardsThat 21 = .ok (.iload_n 2, 1) := by decide +kernel
theorem dX9_cardsThat_22 : decode cX9_cardsThat 22 = .ok (.invokestatic 35, 3) := by decide +kernel
theorem dX9_cardsThat_25 : decode cX9_cardsThat 25 = .ok (.ifCond .eq 7, 3) := by decide +kernel
theorem dX9_cardsThat_28 : decode cX9_cardsThat 28 = .ok (.iconst 1, 1) := by decide +kernel
theorem dX9_cardsThat_29 : decode cX9_cardsThat 29 = .ok (.goto 4, 3) := by decide +kernel
theorem dX9_cardsThat_32 : decode cX9_cardsThat 32 = .ok (.iconst 0, 1) := by decide +kernel
theorem dX9_cardsThat_33 : decode cX9_cardsThat 33 = .ok (.iadd, 1) := by decide +kernel
theorem dX9_cardsThat_34 : decode cX9_cardsThat 34 = .ok (.istore_n 3, 1) := by decide +kernel
theorem dX9_cardsThat_35 : decode cX9_cardsThat 35 = .ok (.iinc 4 1, 3) := by decide +kernel
theorem dX9_cardsThat_38 : decode cX9_cardsThat 38 = .ok (.goto (-33), 3) := by decide +kernel
theorem dX9_cardsThat_41 : decode cX9_cardsThat 41 = .ok (.iload_n 3, 1) := by decide +kernel
theorem dX9_cardsThat_42 : decode cX9_cardsThat 42 = .ok (.ireturn, 1) := by decide +kernel
theorem dX9_set_0 : decode cX9_set 0 = .ok (.iload_n 1, 1) := by decide +kernel
theorem dX9_set_1 : decode cX9_set 1 = .ok (.iconst 0, 1) := by decide +kernel
theorem dX9_set_2 : decode cX9_set 2 = .ok (.iconst 3, 1) := by decide +kernel
theorem dX9_set_3 : decode cX9_set 3 = .ok (.invokestatic 35, 3) := by decide +kernel
theorem dX9_set_6 : decode cX9_set 6 = .ok (.ifCond .eq 44, 3) := by decide +kernel
theorem dX9_set_9 : decode cX9_set 9 = .ok (.iload_n 2, 1) := by decide +kernel
theorem dX9_set_10 : decode cX9_set 10 = .ok (.iload_n 1, 1) := by decide +kernel
theorem dX9_set_11 : decode cX9_set 11 = .ok (.iconst 1, 1) := by decide +kernel
theorem dX9_set_12 : decode cX9_set 12 = .ok (.if_icmp .eq 8, 3) := by decide +kernel
theorem dX9_set_15 : decode cX9_set 15 = .ok (.iload_n 1, 1) := by decide +kernel
theorem dX9_set_16 : decode cX9_set 16 = .ok (.iconst 2, 1) := by decide +kernel
theorem dX9_set_17 : decode cX9_set 17 = .ok (.if_icmp .ne 7, 3) := by decide +kernel
theorem dX9_set_20 : decode cX9_set 20 = .ok (.iconst 1, 1) := by decide +kernel
theorem dX9_set_21 : decode cX9_set 21 = .ok (.goto 4, 3) := by decide +kernel
theorem dX9_set_24 : decode cX9_set 24 = .ok (.iconst 0, 1) := by decide +kernel
theorem dX9_set_25 : decode cX9_set 25 = .ok (.iload_n 1, 1) := by decide +kernel
theorem dX9_set_26 : decode cX9_set 26 = .ok (.ifCond .ne 7, 3) := by decide +kernel
theorem dX9_set_29 : decode cX9_set 29 = .ok (.iconst 4, 1) := by decide +kernel
theorem dX9_set_30 : decode cX9_set 30 = .ok (.goto 14, 3) := by decide +kernel
theorem dX9_set_33 : decode cX9_set 33 = .ok (.iload_n 1, 1) := by decide +kernel
theorem dX9_set_34 : decode cX9_set 34 = .ok (.iconst 3, 1) := by decide +kernel
theorem dX9_set_35 : decode cX9_set 35 = .ok (.if_icmp .ne 7, 3) := by decide +kernel
theorem dX9_set_38 : decode cX9_set 38 = .ok (.iconst 1, 1) := by decide +kernel
theorem dX9_set_39 : decode cX9_set 39 = .ok (.goto 5, 3) := by decide +kernel
theorem dX9_set_42 : decode cX9_set 42 = .ok (.bipush 8, 2) := by decide +kernel
theorem dX9_set_44 : decode cX9_set 44 = .ok (.invokestatic 35, 3) := by decide +kernel
theorem dX9_set_47 : decode cX9_set 47 = .ok (.ifCond .ne 6, 3) := by decide +kernel
theorem dX9_set_50 : decode cX9_set 50 = .ok (.bipush (-2), 2) := by decide +kernel
theorem dX9_set_52 : decode cX9_set 52 = .ok (.ireturn, 1) := by decide +kernel
theorem dX9_set_53 : decode cX9_set 53 = .ok (.iload_n 1, 1) := by decide +kernel
theorem dX9_set_54 : decode cX9_set 54 = .ok (.iconst 2, 1) := by decide +kernel
theorem dX9_set_55 : decode cX9_set 55 = .ok (.if_icmp .ge 15, 3) := by decide +kernel
theorem dX9_set_58 : decode cX9_set 58 = .ok (.aload_n 0, 1) := by decide +kernel
theorem dX9_set_59 : decode cX9_set 59 = .ok (.iconst 1, 1) := by decide +kernel
theorem dX9_set_60 : decode cX9_set 60 = .ok (.iconst 3, 1) := by decide +kernel
theorem dX9_set_61 : decode cX9_set 61 = .ok (.invokevirtual 164, 3) := by decide +kernel
theorem dX9_set_64 : decode cX9_set 64 = .ok (.ifCond .le 6, 3) := by decide +kernel
theorem dX9_set_67 : decode cX9_set 67 = .ok (.bipush (-5), 2) := by decide +kernel
theorem dX9_set_69 : decode cX9_set 69 = .ok (.ireturn, 1) := by decide +kernel
theorem dX9_set_70 : decode cX9_set 70 = .ok (.aload_n 0, 1) := by decide +kernel
theorem dX9_set_71 : decode cX9_set 71 = .ok (.invokevirtual 46, 3) := by decide +kernel
theorem dX9_set_74 : decode cX9_set 74 = .ok (.aload_n 0, 1) := by decide +kernel
theorem dX9_set_75 : decode cX9_set 75 = .ok (.getfield 7, 3) := by decide +kernel
theorem dX9_set_78 : decode cX9_set 78 = .ok (.iload_n 1, 1) := by decide +kernel
theorem dX9_set_79 : decode cX9_set 79 = .ok (.iaload, 1) := by decide +kernel
theorem dX9_set_80 : decode cX9_set 80 = .ok (.istore_n 3, 1) := by decide +kernel
theorem dX9_set_81 : decode cX9_set 81 = .ok (.aload_n 0, 1) := by decide +kernel
theorem dX9_set_82 : decode cX9_set 82 = .ok (.getfield 7, 3) := by decide +kernel
theorem dX9_set_85 : decode cX9_set 85 = .ok (.iload_n 1, 1) := by decide +kernel
theorem dX9_set_86 : decode cX9_set 86 = .ok (.iload_n 2, 1) := by decide +kernel
theorem dX9_set_87 : decode cX9_set 87 = .ok (.iastore, 1) := by decide +kernel
theorem dX9_set_88 : decode cX9_set 88 = .ok (.iload_n 3, 1) := by decide +kernel
theorem dX9_set_89 : decode cX9_set 89 = .ok (.ireturn, 1) := by decide +kernel
theorem dX9_holders_0 : decode cX9_holders 0 = .ok (.iconst 0, 1) := by decide +kernel
theorem dX9_holders_1 : decode cX9_holders 1 = .ok (.istore_n 2, 1) := by decide +kernel
theorem dX9_holders_2 : decode cX9_holders 2 = .ok (.iconst 0, 1) := by decide +kernel
theorem dX9_holders_3 : decode cX9_holders 3 = .ok (.istore_n 3, 1) := by decide +kernel
theorem dX9_holders_4 : decode cX9_holders 4 = .ok (.iload_n 3, 1) := by decide +kernel
theorem dX9_holders_5 : decode cX9_holders 5 = .ok (.bipush 16, 2) := by decide +kernel
theorem dX9_holders_7 : decode cX9_holders 7 = .ok (.if_icmp .ge 28, 3) := by decide +kernel
theorem dX9_holders_10 : decode cX9_holders 10 = .ok (.iload_n 2, 1) := by decide +kernel
theorem dX9_holders_11 : decode cX9_holders 11 = .ok (.aload_n 0, 1) := by decide +kernel
theorem dX9_holders_12 : decode cX9_holders 12 = .ok (.iload_n 3, 1) := by decide +kernel
theorem dX9_holders_13 : decode cX9_holders 13 = .ok (.iload_n 1, 1) := by decide +kernel
theorem dX9_holders_14 : decode cX9_holders 14 = .ok (.invokevirtual 95, 3) := by decide +kernel
theorem dX9_holders_17 : decode cX9_holders 17 = .ok (.ifCond .lt 9, 3) := by decide +kernel
theorem dX9_holders_20 : decode cX9_holders 20 = .ok (.iconst 1, 1) := by decide +kernel
theorem dX9_holders_21 : decode cX9_holders 21 = .ok (.iload_n 3, 1) := by decide +kernel
theorem dX9_holders_22 : decode cX9_holders 22 = .ok (.ishl, 1) := by decide +kernel
theorem dX9_holders_23 : decode cX9_holders 23 = .ok (.goto 4, 3) := by decide +kernel
theorem dX9_holders_26 : decode cX9_holders 26 = .ok (.iconst 0, 1) := by decide +kernel
theorem dX9_holders_27 : decode cX9_holders 27 = .ok (.ior, 1) := by decide +kernel
theorem dX9_holders_28 : decode cX9_holders 28 = .ok (.istore_n 2, 1) := by decide +kernel
theorem dX9_holders_29 : decode cX9_holders 29 = .ok (.iinc 3 1, 3) := by decide +kernel
theorem dX9_holders_32 : decode cX9_holders 32 = .ok (.goto (-28), 3) := by decide +kernel
theorem dX9_holders_35 : decode cX9_holders 35 = .ok (.iload_n 2, 1) := by decide +kernel
theorem dX9_holders_36 : decode cX9_holders 36 = .ok (.ireturn, 1) := by decide +kernel
theorem dX9_valueNow_0 : decode cX9_valueNow 0 = .ok (.aload_n 0, 1) := by decide +kernel
theorem dX9_valueNow_1 : decode cX9_valueNow 1 = .ok (.iload_n 1, 1) := by decide +kernel
theorem dX9_valueNow_2 : decode cX9_valueNow 2 = .ok (.iconst 0, 1) := by decide +kernel
theorem dX9_valueNow_3 : decode cX9_valueNow 3 = .ok (.invokevirtual 75, 3) := by decide +kernel
theorem dX9_valueNow_6 : decode cX9_valueNow 6 = .ok (.istore_n 2, 1) := by decide +kernel
theorem dX9_valueNow_7 : decode cX9_valueNow 7 = .ok (.iconst 0, 1) := by decide +kernel
theorem dX9_valueNow_8 : decode cX9_valueNow 8 = .ok (.istore_n 3, 1) := by decide +kernel
theorem dX9_valueNow_9 : decode cX9_valueNow 9 = .ok (.iload_n 3, 1) := by decide +kernel
theorem dX9_valueNow_10 : decode cX9_valueNow 10 = .ok (.bipush 16, 2) := by decide +kernel
theorem dX9_valueNow_12 : decode cX9_valueNow 12 = .ok (.if_icmp .ge 47, 3) := by decide +kernel
theorem dX9_valueNow_15 : decode cX9_valueNow 15 = .ok (.aload_n 0, 1) := by decide +kernel
theorem dX9_valueNow_16 : decode cX9_valueNow 16 = .ok (.iload_n 3, 1) := by decide +kernel
theorem dX9_valueNow_17 : decode cX9_valueNow 17 = .ok (.iload_n 1, 1) := by decide +kernel
theorem dX9_valueNow_18 : decode cX9_valueNow 18 = .ok (.invokevirtual 95, 3) := by decide +kernel
theorem dX9_valueNow_21 : decode cX9_valueNow 21 = .ok (.istore 4, 2) := by decide +kernel
theorem dX9_valueNow_23 : decode cX9_valueNow 23 = .ok (.iload 4, 2) := by decide +kernel
theorem dX9_valueNow_25 : decode cX9_valueNow 25 = .ok (.ifCond .lt 26, 3) := by decide +kernel
theorem dX9_valueNow_28 : decode cX9_valueNow 28 = .ok (.aload_n 0, 1) := by decide +kernel
theorem dX9_valueNow_29 : decode cX9_valueNow 29 = .ok (.iload_n 3, 1) := by decide +kernel
theorem dX9_valueNow_30 : decode cX9_valueNow 30 = .ok (.iload 4, 2) := by decide +kernel
theorem dX9_valueNow_32 : decode cX9_valueNow 32 = .ok (.iconst 2, 1) := by decide +kernel
theorem dX9_valueNow_33 : decode cX9_valueNow 33 = .ok (.invokevirtual 53, 3) := by decide +kernel
theorem dX9_valueNow_36 : decode cX9_valueNow 36 = .ok (.iconst 1, 1) := by decide +kernel
theorem dX9_valueNow_37 : decode cX9_valueNow 37 = .ok (.if_icmp .ne 14, 3) := by decide +kernel
theorem dX9_valueNow_40 : decode cX9_valueNow 40 = .ok (.aload_n 0, 1) := by decide +kernel
theorem dX9_valueNow_41 : decode cX9_valueNow 41 = .ok (.iload_n 3, 1) := by decide +kernel
theorem dX9_valueNow_42 : decode cX9_valueNow 42 = .ok (.iload 4, 2) := by decide +kernel
theorem dX9_valueNow_44 : decode cX9_valueNow 44 = .ok (.iconst 1, 1) := by decide +kernel
theorem dX9_valueNow_45 : decode cX9_valueNow 45 = .ok (.invokevirtual 53, 3) := by decide +kernel
theorem dX9_valueNow_48 : decode cX9_valueNow 48 = .ok (.goto 4, 3) := by decide +kernel
theorem dX9_valueNow_51 : decode cX9_valueNow 51 = .ok (.iload_n 2, 1) := by decide +kernel
theorem dX9_valueNow_52 : decode cX9_valueNow 52 = .ok (.istore_n 2, 1) := by decide +kernel
theorem dX9_valueNow_53 : decode cX9_valueNow 53 = .ok (.iinc 3 1, 3) := by decide +kernel
theorem dX9_valueNow_56 : decode cX9_valueNow 56 = .ok (.goto (-47), 3) := by decide +kernel
theorem dX9_valueNow_59 : decode cX9_valueNow 59 = .ok (.iload_n 2, 1) := by decide +kernel
theorem dX9_valueNow_60 : decode cX9_valueNow 60 = .ok (.ireturn, 1) := by decide +kernel
theorem dX9_ofNote_0 : decode cX9_ofNote 0 = .ok (.iload_n 1, 1) := by decide +kernel
theorem dX9_ofNote_1 : decode cX9_ofNote 1 = .ok (.invokestatic 133, 3) := by decide +kernel
theorem dX9_ofNote_4 : decode cX9_ofNote 4 = .ok (.ifCond .ne 5, 3) := by decide +kernel
theorem dX9_ofNote_7 : decode cX9_ofNote 7 = .ok (.iconst (-1), 1) := by decide +kernel
theorem dX9_ofNote_8 : decode cX9_ofNote 8 = .ok (.ireturn, 1) := by decide +kernel
theorem dX9_ofNote_9 : decode cX9_ofNote 9 = .ok (.iload_n 2, 1) := by decide +kernel
theorem dX9_ofNote_10 : decode cX9_ofNote 10 = .ok (.tableswitch 106 0 8 #[50, 50, 50, 57, 63, 69, 86, 92, 99], 50) := by decide +kernel
theorem dX9_ofNote_60 : decode cX9_ofNote 60 = .ok (.aload_n 0, 1) := by decide +kernel
theorem dX9_ofNote_61 : decode cX9_ofNote 61 = .ok (.iload_n 1, 1) := by decide +kernel
theorem dX9_ofNote_62 : decode cX9_ofNote 62 = .ok (.iload_n 2, 1) := by decide +kernel
theorem dX9_ofNote_63 : decode cX9_ofNote 63 = .ok (.invokevirtual 75, 3) := by decide +kernel
theorem dX9_ofNote_66 : decode cX9_ofNote 66 = .ok (.ireturn, 1) := by decide +kernel
theorem dX9_ofNote_67 : decode cX9_ofNote 67 = .ok (.aload_n 0, 1) := by decide +kernel
theorem dX9_ofNote_68 : decode cX9_ofNote 68 = .ok (.iload_n 1, 1) := by decide +kernel
theorem dX9_ofNote_69 : decode cX9_ofNote 69 = .ok (.invokevirtual 101, 3) := by decide +kernel
theorem dX9_ofNote_72 : decode cX9_ofNote 72 = .ok (.ireturn, 1) := by decide +kernel
theorem dX9_ofNote_73 : decode cX9_ofNote 73 = .ok (.aload_n 0, 1) := by decide +kernel
theorem dX9_ofNote_74 : decode cX9_ofNote 74 = .ok (.iload_n 1, 1) := by decide +kernel
theorem dX9_ofNote_75 : decode cX9_ofNote 75 = .ok (.invokevirtual 167, 3) := by decide +kernel
theorem dX9_ofNote_78 : decode cX9_ofNote 78 = .ok (.ireturn, 1) := by decide +kernel
theorem dX9_ofNote_79 : decode cX9_ofNote 79 = .ok (.aload_n 0, 1) := by decide +kernel
theorem dX9_ofNote_80 : decode cX9_ofNote 80 = .ok (.iload_n 1, 1) := by decide +kernel
theorem dX9_ofNote_81 : decode cX9_ofNote 81 = .ok (.invokevirtual 101, 3) := by decide +kernel
theorem dX9_ofNote_84 : decode cX9_ofNote 84 = .ok (.aload_n 0, 1) := by decide +kernel
theorem dX9_ofNote_85 : decode cX9_ofNote 85 = .ok (.iload_n 1, 1) := by decide +kernel
theorem dX9_ofNote_86 : decode cX9_ofNote 86 = .ok (.invokevirtual 167, 3) := by decide +kernel
theorem dX9_ofNote_89 : decode cX9_ofNote 89 = .ok (.iconst (-1), 1) := by decide +kernel
theorem dX9_ofNote_90 : decode cX9_ofNote 90 = .ok (.ixor, 1) := by decide +kernel
theorem dX9_ofNote_91 : decode cX9_ofNote 91 = .ok (.iand, 1) := by decide +kernel
theorem dX9_ofNote_92 : decode cX9_ofNote 92 = .ok (.invokestatic 89, 3) := by decide +kernel
theorem dX9_ofNote_95 : decode cX9_ofNote 95 = .ok (.ireturn, 1) := by decide +kernel
theorem dX9_ofNote_96 : decode cX9_ofNote 96 = .ok (.aload_n 0, 1) := by decide +kernel
theorem dX9_ofNote_97 : decode cX9_ofNote 97 = .ok (.iload_n 1, 1) := by decide +kernel
theorem dX9_ofNote_98 : decode cX9_ofNote 98 = .ok (.invokevirtual 170, 3) := by decide +kernel
theorem dX9_ofNote_101 : decode cX9_ofNote 101 = .ok (.ireturn, 1) := by decide +kernel
theorem dX9_ofNote_102 : decode cX9_ofNote 102 = .ok (.aload_n 0, 1) := by decide +kernel
theorem dX9_ofNote_103 : decode cX9_ofNote 103 = .ok (.iload_n 1, 1) := by decide +kernel
theorem dX9_ofNote_104 : decode cX9_ofNote 104 = .ok (.iconst 3, 1) := by decide +kernel
theorem dX9_ofNote_105 : decode cX9_ofNote 105 = .ok (.invokevirtual 75, 3) := by decide +kernel
theorem dX9_ofNote_108 : decode cX9_ofNote 108 = .ok (.ireturn, 1) := by decide +kernel
theorem dX9_ofNote_109 : decode cX9_ofNote 109 = .ok (.aload_n 0, 1) := by decide +kernel
theorem dX9_ofNote_110 : decode cX9_ofNote 110 = .ok (.iload_n 1, 1) := by decide +kernel
theorem dX9_ofNote_111 : decode cX9_ofNote 111 = .ok (.iconst 4, 1) := by decide +kernel
theorem dX9_ofNote_112 : decode cX9_ofNote 112 = .ok (.invokevirtual 75, 3) := by decide +kernel
theorem dX9_ofNote_115 : decode cX9_ofNote 115 = .ok (.ireturn, 1) := by decide +kernel
theorem dX9_ofNote_116 : decode cX9_ofNote 116 = .ok (.bipush (-2), 2) := by decide +kernel
theorem dX9_ofNote_118 : decode cX9_ofNote 118 = .ok (.ireturn, 1) := by decide +kernel
theorem dX9_onShelf_0 : decode cX9_onShelf 0 = .ok (.iload_n 1, 1) := by decide +kernel
theorem dX9_onShelf_1 : decode cX9_onShelf 1 = .ok (.invokestatic 129, 3) := by decide +kernel
theorem dX9_onShelf_4 : decode cX9_onShelf 4 = .ok (.ifCond .eq 19, 3) := by decide +kernel
theorem dX9_onShelf_7 : decode cX9_onShelf 7 = .ok (.iload_n 2, 1) := by decide +kernel
theorem dX9_onShelf_8 : decode cX9_onShelf 8 = .ok (.iconst 0, 1) := by decide +kernel
theorem dX9_onShelf_9 : decode cX9_onShelf 9 = .ok (.aload_n 0, 1) := by decide +kernel
theorem dX9_onShelf_10 : decode cX9_onShelf 10 = .ok (.iload_n 1, 1) := by decide +kernel
theorem dX9_onShelf_11 : decode cX9_onShelf 11 = .ok (.iconst 0, 1) := by decide +kernel
theorem dX9_onShelf_12 : decode cX9_onShelf 12 = .ok (.invokevirtual 49, 3) := by decide +kernel
theorem dX9_onShelf_15 : decode cX9_onShelf 15 = .ok (.iconst 1, 1) := by decide +kernel
theorem dX9_onShelf_16 : decode cX9_onShelf 16 = .ok (.isub, 1) := by decide +kernel
theorem dX9_onShelf_17 : decode cX9_onShelf 17 = .ok (.invokestatic 35, 3) := by decide +kernel
theorem dX9_onShelf_20 : decode cX9_onShelf 20 = .ok (.ifCond .ne 5, 3) := by decide +kernel
theorem dX9_onShelf_23 : decode cX9_onShelf 23 = .ok (.iconst (-1), 1) := by decide +kernel
theorem dX9_onShelf_24 : decode cX9_onShelf 24 = .ok (.ireturn, 1) := by decide +kernel
theorem dX9_onShelf_25 : decode cX9_onShelf 25 = .ok (.iload_n 3, 1) := by decide +kernel
theorem dX9_onShelf_26 : decode cX9_onShelf 26 = .ok (.iconst 0, 1) := by decide +kernel
theorem dX9_onShelf_27 : decode cX9_onShelf 27 = .ok (.iconst 2, 1) := by decide +kernel
theorem dX9_onShelf_28 : decode cX9_onShelf 28 = .ok (.invokestatic 35, 3) := by decide +kernel
theorem dX9_onShelf_31 : decode cX9_onShelf 31 = .ok (.ifCond .eq 13, 3) := by decide +kernel
theorem dX9_onShelf_34 : decode cX9_onShelf 34 = .ok (.aload_n 0, 1) := by decide +kernel
theorem dX9_onShelf_35 : decode cX9_onShelf 35 = .ok (.iload_n 1, 1) := by decide +kernel
theorem dX9_onShelf_36 : decode cX9_onShelf 36 = .ok (.iload_n 2, 1) := by decide +kernel
theorem dX9_onShelf_37 : decode cX9_onShelf 37 = .ok (.iload_n 3, 1) := by decide +kernel
theorem dX9_onShelf_38 : decode cX9_onShelf 38 = .ok (.invokevirtual 53, 3) := by decide +kernel
theorem dX9_onShelf_41 : decode cX9_onShelf 41 = .ok (.goto 5, 3) := by decide +kernel
theorem dX9_onShelf_44 : decode cX9_onShelf 44 = .ok (.bipush (-2), 2) := by decide +kernel
theorem dX9_onShelf_46 : decode cX9_onShelf 46 = .ok (.ireturn, 1) := by decide +kernel
theorem dX9_callers_0 : decode cX9_callers 0 = .ok (.iconst 0, 1) := by decide +kernel
theorem dX9_callers_1 : decode cX9_callers 1 = .ok (.istore_n 2, 1) := by decide +kernel
theorem dX9_callers_2 : decode cX9_callers 2 = .ok (.iconst 0, 1) := by decide +kernel
theorem dX9_callers_3 : decode cX9_callers 3 = .ok (.istore_n 3, 1) := by decide +kernel
theorem dX9_callers_4 : decode cX9_callers 4 = .ok (.iload_n 3, 1) := by decide +kernel
theorem dX9_callers_5 : decode cX9_callers 5 = .ok (.bipush 24, 2) := by decide +kernel
theorem dX9_callers_7 : decode cX9_callers 7 = .ok (.if_icmp .ge 31, 3) := by decide +kernel
theorem dX9_callers_10 : decode cX9_callers 10 = .ok (.iload_n 2, 1) := by decide +kernel
theorem dX9_callers_11 : decode cX9_callers 11 = .ok (.aload_n 0, 1) := by decide +kernel
theorem dX9_callers_12 : decode cX9_callers 12 = .ok (.iload_n 3, 1) := by decide +kernel
theorem dX9_callers_13 : decode cX9_callers 13 = .ok (.invokevirtual 101, 3) := by decide +kernel
theorem dX9_callers_16 : decode cX9_callers 16 = .ok (.iload_n 1, 1) := by decide +kernel
theorem dX9_callers_17 : decode cX9_callers 17 = .ok (.invokestatic 82, 3) := by decide +kernel
theorem dX9_callers_20 : decode cX9_callers 20 = .ok (.ifCond .eq 9, 3) := by decide +kernel
theorem dX9_callers_23 : decode cX9_callers 23 = .ok (.iconst 1, 1) := by decide +kernel
theorem dX9_callers_24 : decode cX9_callers 24 = .ok (.iload_n 3, 1) := by decide +kernel
theorem dX9_callers_25 : decode cX9_callers 25 = .ok (.ishl, 1) := by decide +kernel
theorem dX9_callers_26 : decode cX9_callers 26 = .ok (.goto 4, 3) := by decide +kernel
theorem dX9_callers_29 : decode cX9_callers 29 = .ok (.iconst 0, 1) := by decide +kernel
theorem dX9_callers_30 : decode cX9_callers 30 = .ok (.ior, 1) := by decide +kernel
theorem dX9_callers_31 : decode cX9_callers 31 = .ok (.istore_n 2, 1) := by decide +kernel
theorem dX9_callers_32 : decode cX9_callers 32 = .ok (.iinc 3 1, 3) := by decide +kernel
theorem dX9_callers_35 : decode cX9_callers 35 = .ok (.goto (-31), 3) := by decide +kernel
theorem dX9_callers_38 : decode cX9_callers 38 = .ok (.iload_n 2, 1) := by decide +kernel
theorem dX9_callers_39 : decode cX9_callers 39 = .ok (.ireturn, 1) := by decide +kernel
theorem dX9_ofReader_0 : decode cX9_ofReader 0 = .ok (.iload_n 1, 1) := by decide +kernel
theorem dX9_ofReader_1 : decode cX9_ofReader 1 = .ok (.invokestatic 129, 3) := by decide +kernel
theorem dX9_ofReader_4 : decode cX9_ofReader 4 = .ok (.ifCond .ne 5, 3) := by decide +kernel
theorem dX9_ofReader_7 : decode cX9_ofReader 7 = .ok (.iconst (-1), 1) := by decide +kernel
theorem dX9_ofReader_8 : decode cX9_ofReader 8 = .ok (.ireturn, 1) := by decide +kernel
theorem dX9_ofReader_9 : decode cX9_ofReader 9 = .ok (.iload_n 2, 1) := by decide +kernel
theorem dX9_ofReader_10 : decode cX9_ofReader 10 = .ok (.tableswitch 89 0 6 #[42, 49, 55, 62, 69, 76, 83], 42) := by decide +kernel
theorem dX9_ofReader_52 : decode cX9_ofReader 52 = .ok (.aload_n 0, 1) := by decide +kernel
theorem dX9_ofReader_53 : decode cX9_ofReader 53 = .ok (.iload_n 1, 1) := by decide +kernel
theorem dX9_ofReader_54 : decode cX9_ofReader 54 = .ok (.iconst 0, 1) := by decide +kernel
theorem dX9_ofReader_55 : decode cX9_ofReader 55 = .ok (.invokevirtual 49, 3) := by decide +kernel
theorem dX9_ofReader_58 : decode cX9_ofReader 58 = .ok (.ireturn, 1) := by decide +kernel
theorem dX9_ofReader_59 : decode cX9_ofReader 59 = .ok (.aload_n 0, 1) := by decide +kernel
theorem dX9_ofReader_60 : decode cX9_ofReader 60 = .ok (.iload_n 1, 1) := by decide +kernel
theorem dX9_ofReader_61 : decode cX9_ofReader 61 = .ok (.invokevirtual 78, 3) := by decide +kernel
theorem dX9_ofReader_64 : decode cX9_ofReader 64 = .ok (.ireturn, 1) := by decide +kernel
theorem dX9_ofReader_65 : decode cX9_ofReader 65 = .ok (.aload_n 0, 1) := by decide +kernel
theorem dX9_ofReader_66 : decode cX9_ofReader 66 = .ok (.iload_n 1, 1) := by decide +kernel
theorem dX9_ofReader_67 : decode cX9_ofReader 67 = .ok (.iconst 1, 1) := by decide +kernel
theorem dX9_ofReader_68 : decode cX9_ofReader 68 = .ok (.invokevirtual 49, 3) := by decide +kernel
theorem dX9_ofReader_71 : decode cX9_ofReader 71 = .ok (.ireturn, 1) := by decide +kernel
theorem dX9_ofReader_72 : decode cX9_ofReader 72 = .ok (.aload_n 0, 1) := by decide +kernel
theorem dX9_ofReader_73 : decode cX9_ofReader 73 = .ok (.iload_n 1, 1) := by decide +kernel
theorem dX9_ofReader_74 : decode cX9_ofReader 74 = .ok (.iconst 2, 1) := by decide +kernel
theorem dX9_ofReader_75 : decode cX9_ofReader 75 = .ok (.invokevirtual 49, 3) := by decide +kernel
theorem dX9_ofReader_78 : decode cX9_ofReader 78 = .ok (.ireturn, 1) := by decide +kernel
theorem dX9_ofReader_79 : decode cX9_ofReader 79 = .ok (.aload_n 0, 1) := by decide +kernel
theorem dX9_ofReader_80 : decode cX9_ofReader 80 = .ok (.iload_n 1, 1) := by decide +kernel
theorem dX9_ofReader_81 : decode cX9_ofReader 81 = .ok (.iconst 3, 1) := by decide +kernel
theorem dX9_ofReader_82 : decode cX9_ofReader 82 = .ok (.invokevirtual 49, 3) := by decide +kernel
theorem dX9_ofReader_85 : decode cX9_ofReader 85 = .ok (.ireturn, 1) := by decide +kernel
theorem dX9_ofReader_86 : decode cX9_ofReader 86 = .ok (.aload_n 0, 1) := by decide +kernel
theorem dX9_ofReader_87 : decode cX9_ofReader 87 = .ok (.iload_n 1, 1) := by decide +kernel
theorem dX9_ofReader_88 : decode cX9_ofReader 88 = .ok (.iconst 4, 1) := by decide +kernel
theorem dX9_ofReader_89 : decode cX9_ofReader 89 = .ok (.invokevirtual 49, 3) := by decide +kernel
theorem dX9_ofReader_92 : decode cX9_ofReader 92 = .ok (.ireturn, 1) := by decide +kernel
theorem dX9_ofReader_93 : decode cX9_ofReader 93 = .ok (.aload_n 0, 1) := by decide +kernel
theorem dX9_ofReader_94 : decode cX9_ofReader 94 = .ok (.iload_n 1, 1) := by decide +kernel
theorem dX9_ofReader_95 : decode cX9_ofReader 95 = .ok (.invokevirtual 173, 3) := by decide +kernel
theorem dX9_ofReader_98 : decode cX9_ofReader 98 = .ok (.ireturn, 1) := by decide +kernel
theorem dX9_ofReader_99 : decode cX9_ofReader 99 = .ok (.bipush (-2), 2) := by decide +kernel
theorem dX9_ofReader_101 : decode cX9_ofReader 101 = .ok (.ireturn, 1) := by decide +kernel
theorem dX9_copies_0 : decode cX9_copies 0 = .ok (.iconst 0, 1) := by decide +kernel
theorem dX9_copies_1 : decode cX9_copies 1 = .ok (.istore_n 2, 1) := by decide +kernel
theorem dX9_copies_2 : decode cX9_copies 2 = .ok (.iconst 0, 1) := by decide +kernel
theorem dX9_copies_3 : decode cX9_copies 3 = .ok (.istore_n 3, 1) := by decide +kernel
theorem dX9_copies_4 : decode cX9_copies 4 = .ok (.iload_n 3, 1) := by decide +kernel
theorem dX9_copies_5 : decode cX9_copies 5 = .ok (.bipush 16, 2) := by decide +kernel
theorem dX9_copies_7 : decode cX9_copies 7 = .ok (.if_icmp .ge 53, 3) := by decide +kernel
theorem dX9_copies_10 : decode cX9_copies 10 = .ok (.iconst 0, 1) := by decide +kernel
theorem dX9_copies_11 : decode cX9_copies 11 = .ok (.istore 4, 2) := by decide +kernel
theorem dX9_copies_13 : decode cX9_copies 13 = .ok (.iload 4, 2) := by decide +kernel
theorem dX9_copies_15 : decode cX9_copies 15 = .ok (.aload_n 0, 1) := by decide +kernel
theorem dX9_copies_16 : decode cX9_copies 16 = .ok (.iload_n 3, 1) := by decide +kernel
theorem dX9_copies_17 : decode cX9_copies 17 = .ok (.iconst 0, 1) := by decide +kernel
theorem dX9_copies_18 : decode cX9_copies 18 = .ok (.invokevirtual 49, 3) := by decide +kernel
theorem dX9_copies_21 : decode cX9_copies 21 = .ok (.if_icmp .ge 33, 3) := by decide +kernel
theorem dX9_copies_24 : decode cX9_copies 24 = .ok (.iload_n 2, 1) := by decide +kernel
theorem dX9_copies_25 : decode cX9_copies 25 = .ok (.iload_n 1, 1) := by decide +kernel
theorem dX9_copies_26 : decode cX9_copies 26 = .ok (.ifCond .eq 15, 3) := by decide +kernel
theorem dX9_copies_29 : decode cX9_copies 29 = .ok (.aload_n 0, 1) := by decide +kernel
theorem dX9_copies_30 : decode cX9_copies 30 = .ok (.iload_n 3, 1) := by decide +kernel
theorem dX9_copies_31 : decode cX9_copies 31 = .ok (.iload 4, 2) := by decide +kernel
theorem dX9_copies_33 : decode cX9_copies 33 = .ok (.iconst 2, 1) := by decide +kernel
theorem dX9_copies_34 : decode cX9_copies 34 = .ok (.invokevirtual 53, 3) := by decide +kernel
theorem dX9_copies_37 : decode cX9_copies 37 = .ok (.iconst 1, 1) := by decide +kernel
theorem dX9_copies_38 : decode cX9_copies 38 = .ok (.if_icmp .ne 7, 3) := by decide +kernel
theorem dX9_copies_41 : decode cX9_copies 41 = .ok (.iconst 1, 1) := by decide +kernel
theorem dX9_copies_42 : decode cX9_copies 42 = .ok (.goto 4, 3) := by decide +kernel
theorem dX9_copies_45 : decode cX9_copies 45 = .ok (.iconst 0, 1) := by decide +kernel
theorem dX9_copies_46 : decode cX9_copies 46 = .ok (.iadd, 1) := by decide +kernel
theorem dX9_copies_47 : decode cX9_copies 47 = .ok (.istore_n 2, 1) := by decide +kernel
theorem dX9_copies_48 : decode cX9_copies 48 = .ok (.iinc 4 1, 3) := by decide +kernel
theorem dX9_copies_51 : decode cX9_copies 51 = .ok (.goto (-38), 3) := by decide +kernel
theorem dX9_copies_54 : decode cX9_copies 54 = .ok (.iinc 3 1, 3) := by decide +kernel
theorem dX9_copies_57 : decode cX9_copies 57 = .ok (.goto (-53), 3) := by decide +kernel
theorem dX9_copies_60 : decode cX9_copies 60 = .ok (.iload_n 2, 1) := by decide +kernel
theorem dX9_copies_61 : decode cX9_copies 61 = .ok (.ireturn, 1) := by decide +kernel
theorem dX9_count_0 : decode cX9_count 0 = .ok (.iload_n 1, 1) := by decide +kernel
theorem dX9_count_1 : decode cX9_count 1 = .ok (.bipush 7, 2) := by decide +kernel
theorem dX9_count_3 : decode cX9_count 3 = .ok (.bipush 10, 2) := by decide +kernel
theorem dX9_count_5 : decode cX9_count 5 = .ok (.invokestatic 35, 3) := by decide +kernel
theorem dX9_count_8 : decode cX9_count 8 = .ok (.ifCond .eq 13, 3) := by decide +kernel
theorem dX9_count_11 : decode cX9_count 11 = .ok (.aload_n 0, 1) := by decide +kernel
theorem dX9_count_12 : decode cX9_count 12 = .ok (.getfield 7, 3) := by decide +kernel
theorem dX9_count_15 : decode cX9_count 15 = .ok (.iload_n 1, 1) := by decide +kernel
theorem dX9_count_16 : decode cX9_count 16 = .ok (.bipush 7, 2) := by decide +kernel
theorem dX9_count_18 : decode cX9_count 18 = .ok (.isub, 1) := by decide +kernel
theorem dX9_count_19 : decode cX9_count 19 = .ok (.iaload, 1) := by decide +kernel
theorem dX9_count_20 : decode cX9_count 20 = .ok (.ireturn, 1) := by decide +kernel
theorem dX9_count_21 : decode cX9_count 21 = .ok (.iload_n 1, 1) := by decide +kernel
theorem dX9_count_22 : decode cX9_count 22 = .ok (.tableswitch 114 0 12 #[66, 66, 66, 75, 75, 90, 97, 114, 114, 114, 114, 104, 109], 66) := by decide +kernel
theorem dX9_count_88 : decode cX9_count 88 = .ok (.aload_n 0, 1) := by decide +kernel
theorem dX9_count_89 : decode cX9_count 89 = .ok (.getfield 7, 3) := by decide +kernel
theorem dX9_count_92 : decode cX9_count 92 = .ok (.iconst 4, 1) := by decide +kernel
theorem dX9_count_93 : decode cX9_count 93 = .ok (.iload_n 1, 1) := by decide +kernel
theorem dX9_count_94 : decode cX9_count 94 = .ok (.iadd, 1) := by decide +kernel
theorem dX9_count_95 : decode cX9_count 95 = .ok (.iaload, 1) := by decide +kernel
theorem dX9_count_96 : decode cX9_count 96 = .ok (.ireturn, 1) := by decide +kernel
theorem dX9_count_97 : decode cX9_count 97 = .ok (.aload_n 0, 1) := by decide +kernel
theorem dX9_count_98 : decode cX9_count 98 = .ok (.iload_n 1, 1) := by decide +kernel
theorem dX9_count_99 : decode cX9_count 99 = .ok (.iconst 4, 1) := by decide +kernel
theorem dX9_count_100 : decode cX9_count 100 = .ok (.if_icmp .ne 7, 3) := by decide +kernel
theorem dX9_count_103 : decode cX9_count 103 = .ok (.iconst 1, 1) := by decide +kernel
theorem dX9_count_104 : decode cX9_count 104 = .ok (.goto 4, 3) := by decide +kernel
theorem dX9_count_107 : decode cX9_count 107 = .ok (.iconst 0, 1) := by decide +kernel
theorem dX9_count_108 : decode cX9_count 108 = .ok (.invokevirtual 176, 3) := by decide +kernel
theorem dX9_count_111 : decode cX9_count 111 = .ok (.ireturn, 1) := by decide +kernel
theorem dX9_count_112 : decode cX9_count 112 = .ok (.aload_n 0, 1) := by decide +kernel
theorem dX9_count_113 : decode cX9_count 113 = .ok (.iconst 1, 1) := by decide +kernel
theorem dX9_count_114 : decode cX9_count 114 = .ok (.iconst 3, 1) := by decide +kernel
theorem dX9_count_115 : decode cX9_count 115 = .ok (.invokevirtual 164, 3) := by decide +kernel
theorem dX9_count_118 : decode cX9_count 118 = .ok (.ireturn, 1) := by decide +kernel
theorem dX9_count_119 : decode cX9_count 119 = .ok (.aload_n 0, 1) := by decide +kernel
theorem dX9_count_120 : decode cX9_count 120 = .ok (.iconst 2, 1) := by decide +kernel
theorem dX9_count_121 : decode cX9_count 121 = .ok (.iconst 2, 1) := by decide +kernel
theorem dX9_count_122 : decode cX9_count 122 = .ok (.invokevirtual 164, 3) := by decide +kernel
theorem dX9_count_125 : decode cX9_count 125 = .ok (.ireturn, 1) := by decide +kernel
theorem dX9_count_126 : decode cX9_count 126 = .ok (.aload_n 0, 1) := by decide +kernel
theorem dX9_count_127 : decode cX9_count 127 = .ok (.getfield 180, 3) := by decide +kernel
theorem dX9_count_130 : decode cX9_count 130 = .ok (.ireturn, 1) := by decide +kernel
theorem dX9_count_131 : decode cX9_count 131 = .ok (.aload_n 0, 1) := by decide +kernel
theorem dX9_count_132 : decode cX9_count 132 = .ok (.getfield 39, 3) := by decide +kernel
theorem dX9_count_135 : decode cX9_count 135 = .ok (.ireturn, 1) := by decide +kernel
theorem dX9_count_136 : decode cX9_count 136 = .ok (.bipush (-2), 2) := by decide +kernel
theorem dX9_count_138 : decode cX9_count 138 = .ok (.ireturn, 1) := by decide +kernel
theorem dX9_costOfReading_0 : decode cX9_costOfReading 0 = .ok (.iload_n 1, 1) := by decide +kernel
theorem dX9_costOfReading_1 : decode cX9_costOfReading 1 = .ok (.invokestatic 129, 3) := by decide +kernel
theorem dX9_costOfReading_4 : decode cX9_costOfReading 4 = .ok (.ifCond .eq 10, 3) := by decide +kernel
theorem dX9_costOfReading_7 : decode cX9_costOfReading 7 = .ok (.iload_n 2, 1) := by decide +kernel
theorem dX9_costOfReading_8 : decode cX9_costOfReading 8 = .ok (.invokestatic 133, 3) := by decide +kernel
theorem dX9_costOfReading_11 : decode cX9_costOfReading 11 = .ok (.ifCond .ne 5, 3) := by decide +kernel
theorem dX9_costOfReading_14 : decode cX9_costOfReading 14 = .ok (.iconst (-1), 1) := by decide +kernel
theorem dX9_costOfReading_15 : decode cX9_costOfReading 15 = .ok (.ireturn, 1) := by decide +kernel
theorem dX9_costOfReading_16 : decode cX9_costOfReading 16 = .ok (.aload_n 0, 1) := by decide +kernel
theorem dX9_costOfReading_17 : decode cX9_costOfReading 17 = .ok (.invokevirtual 183, 3) := by decide +kernel
theorem dX9_costOfReading_20 : decode cX9_costOfReading 20 = .ok (.aload_n 0, 1) := by decide +kernel
theorem dX9_costOfReading_21 : decode cX9_costOfReading 21 = .ok (.getfield 7, 3) := by decide +kernel
theorem dX9_costOfReading_24 : decode cX9_costOfReading 24 = .ok (.iconst 4, 1) := by decide +kernel
theorem dX9_costOfReading_25 : decode cX9_costOfReading 25 = .ok (.iaload, 1) := by decide +kernel
theorem dX9_costOfReading_26 : decode cX9_costOfReading 26 = .ok (.istore_n 3, 1) := by decide +kernel
theorem dX9_costOfReading_27 : decode cX9_costOfReading 27 = .ok (.aload_n 0, 1) := by decide +kernel
theorem dX9_costOfReading_28 : decode cX9_costOfReading 28 = .ok (.iload_n 1, 1) := by decide +kernel
theorem dX9_costOfReading_29 : decode cX9_costOfReading 29 = .ok (.iload_n 2, 1) := by decide +kernel
theorem dX9_costOfReading_30 : decode cX9_costOfReading 30 = .ok (.invokevirtual 143, 3) := by decide +kernel
theorem dX9_costOfReading_33 : decode cX9_costOfReading 33 = .ok (.pop, 1) := by decide +kernel
theorem dX9_costOfReading_34 : decode cX9_costOfReading 34 = .ok (.aload_n 0, 1) := by decide +kernel
theorem dX9_costOfReading_35 : decode cX9_costOfReading 35 = .ok (.getfield 7, 3) := by decide +kernel
theorem dX9_costOfReading_38 : decode cX9_costOfReading 38 = .ok (.iconst 4, 1) := by decide +kernel
theorem dX9_costOfReading_39 : decode cX9_costOfReading 39 = .ok (.iaload, 1) := by decide +kernel
theorem dX9_costOfReading_40 : decode cX9_costOfReading 40 = .ok (.iload_n 3, 1) := by decide +kernel
theorem dX9_costOfReading_41 : decode cX9_costOfReading 41 = .ok (.isub, 1) := by decide +kernel
theorem dX9_costOfReading_42 : decode cX9_costOfReading 42 = .ok (.istore 4, 2) := by decide +kernel
theorem dX9_costOfReading_44 : decode cX9_costOfReading 44 = .ok (.aload_n 0, 1) := by decide +kernel
theorem dX9_costOfReading_45 : decode cX9_costOfReading 45 = .ok (.invokevirtual 186, 3) := by decide +kernel
theorem dX9_costOfReading_48 : decode cX9_costOfReading 48 = .ok (.iload 4, 2) := by decide +kernel
theorem dX9_costOfReading_50 : decode cX9_costOfReading 50 = .ok (.ireturn, 1) := by decide +kernel
theorem dX9_cost_0 : decode cX9_cost 0 = .ok (.aload_n 0, 1) := by decide +kernel
theorem dX9_cost_1 : decode cX9_cost 1 = .ok (.invokevirtual 183, 3) := by decide +kernel
theorem dX9_cost_4 : decode cX9_cost 4 = .ok (.aload_n 0, 1) := by decide +kernel
theorem dX9_cost_5 : decode cX9_cost 5 = .ok (.getfield 7, 3) := by decide +kernel
theorem dX9_cost_8 : decode cX9_cost 8 = .ok (.iconst 4, 1) := by decide +kernel
theorem dX9_cost_9 : decode cX9_cost 9 = .ok (.iload_n 3, 1) := by decide +kernel
theorem dX9_cost_10 : decode cX9_cost 10 = .ok (.iadd, 1) := by decide +kernel
theorem dX9_cost_11 : decode cX9_cost 11 = .ok (.iaload, 1) := by decide +kernel
theorem dX9_cost_12 : decode cX9_cost 12 = .ok (.istore 4, 2) := by decide +kernel
theorem dX9_cost_14 : decode cX9_cost 14 = .ok (.aload_n 0, 1) := by decide +kernel
theorem dX9_cost_15 : decode cX9_cost 15 = .ok (.iload_n 1, 1) := by decide +kernel
theorem dX9_cost_16 : decode cX9_cost 16 = .ok (.iload_n 2, 1) := by decide +kernel
theorem dX9_cost_17 : decode cX9_cost 17 = .ok (.iconst 0, 1) := by decide +kernel
theorem dX9_cost_18 : decode cX9_cost 18 = .ok (.invokevirtual 150, 3) := by decide +kernel
theorem dX9_cost_21 : decode cX9_cost 21 = .ok (.pop, 1) := by decide +kernel
theorem dX9_cost_22 : decode cX9_cost 22 = .ok (.aload_n 0, 1) := by decide +kernel
theorem dX9_cost_23 : decode cX9_cost 23 = .ok (.getfield 7, 3) := by decide +kernel
theorem dX9_cost_26 : decode cX9_cost 26 = .ok (.iconst 4, 1) := by decide +kernel
theorem dX9_cost_27 : decode cX9_cost 27 = .ok (.iload_n 3, 1) := by decide +kernel
theorem dX9_cost_28 : decode cX9_cost 28 = .ok (.iadd, 1) := by decide +kernel
theorem dX9_cost_29 : decode cX9_cost 29 = .ok (.iaload, 1) := by decide +kernel
theorem dX9_cost_30 : decode cX9_cost 30 = .ok (.iload 4, 2) := by decide +kernel
theorem dX9_cost_32 : decode cX9_cost 32 = .ok (.isub, 1) := by decide +kernel
theorem dX9_cost_33 : decode cX9_cost 33 = .ok (.istore 5, 2) := by decide +kernel
theorem dX9_cost_35 : decode cX9_cost 35 = .ok (.aload_n 0, 1) := by decide +kernel
theorem dX9_cost_36 : decode cX9_cost 36 = .ok (.invokevirtual 186, 3) := by decide +kernel
theorem dX9_cost_39 : decode cX9_cost 39 = .ok (.iload 5, 2) := by decide +kernel
theorem dX9_cost_41 : decode cX9_cost 41 = .ok (.ireturn, 1) := by decide +kernel
theorem dX9_costOfChange_0 : decode cX9_costOfChange 0 = .ok (.iload_n 1, 1) := by decide +kernel
theorem dX9_costOfChange_1 : decode cX9_costOfChange 1 = .ok (.invokestatic 129, 3) := by decide +kernel
theorem dX9_costOfChange_4 : decode cX9_costOfChange 4 = .ok (.ifCond .eq 10, 3) := by decide +kernel
theorem dX9_costOfChange_7 : decode cX9_costOfChange 7 = .ok (.iload_n 2, 1) := by decide +kernel
theorem dX9_costOfChange_8 : decode cX9_costOfChange 8 = .ok (.invokestatic 133, 3) := by decide +kernel
theorem dX9_costOfChange_11 : decode cX9_costOfChange 11 = .ok (.ifCond .ne 5, 3) := by decide +kernel
theorem dX9_costOfChange_14 : decode cX9_costOfChange 14 = .ok (.iconst (-1), 1) := by decide +kernel
theorem dX9_costOfChange_15 : decode cX9_costOfChange 15 = .ok (.ireturn, 1) := by decide +kernel
theorem dX9_costOfChange_16 : decode cX9_costOfChange 16 = .ok (.iload_n 3, 1) := by decide +kernel
theorem dX9_costOfChange_17 : decode cX9_costOfChange 17 = .ok (.iconst 0, 1) := by decide +kernel
theorem dX9_costOfChange_18 : decode cX9_costOfChange 18 = .ok (.iconst 1, 1) := by decide +kernel
theorem dX9_costOfChange_19 : decode cX9_costOfChange 19 = .ok (.invokestatic 35, 3) := by decide +kernel
theorem dX9_costOfChange_22 : decode cX9_costOfChange 22 = .ok (.ifCond .eq 13, 3) := by decide +kernel
theorem dX9_costOfChange_25 : decode cX9_costOfChange 25 = .ok (.aload_n 0, 1) := by decide +kernel
theorem dX9_costOfChange_26 : decode cX9_costOfChange 26 = .ok (.iload_n 1, 1) := by decide +kernel
theorem dX9_costOfChange_27 : decode cX9_costOfChange 27 = .ok (.iload_n 2, 1) := by decide +kernel
theorem dX9_costOfChange_28 : decode cX9_costOfChange 28 = .ok (.iload_n 3, 1) := by decide +kernel
theorem dX9_costOfChange_29 : decode cX9_costOfChange 29 = .ok (.invokevirtual 189, 3) := by decide +kernel
theorem dX9_costOfChange_32 : decode cX9_costOfChange 32 = .ok (.goto 5, 3) := by decide +kernel
theorem dX9_costOfChange_35 : decode cX9_costOfChange 35 = .ok (.bipush (-2), 2) := by decide +kernel
theorem dX9_costOfChange_37 : decode cX9_costOfChange 37 = .ok (.ireturn, 1) := by decide +kernel
theorem dX9_cheapest_0 : decode cX9_cheapest 0 = .ok (.iload_n 1, 1) := by decide +kernel
theorem dX9_cheapest_1 : decode cX9_cheapest 1 = .ok (.invokestatic 133, 3) := by decide +kernel
theorem dX9_cheapest_4 : decode cX9_cheapest 4 = .ok (.ifCond .ne 5, 3) := by decide +kernel
theorem dX9_cheapest_7 : decode cX9_cheapest 7 = .ok (.iconst (-1), 1) := by decide +kernel
theorem dX9_cheapest_8 : decode cX9_cheapest 8 = .ok (.ireturn, 1) := by decide +kernel
theorem dX9_cheapest_9 : decode cX9_cheapest 9 = .ok (.iconst 0, 1) := by decide +kernel
theorem dX9_cheapest_10 : decode cX9_cheapest 10 = .ok (.istore_n 2, 1) := by decide +kernel
theorem dX9_cheapest_11 : decode cX9_cheapest 11 = .ok (.aload_n 0, 1) := by decide +kernel
theorem dX9_cheapest_12 : decode cX9_cheapest 12 = .ok (.iconst 0, 1) := by decide +kernel
theorem dX9_cheapest_13 : decode cX9_cheapest 13 = .ok (.iload_n 1, 1) := by decide +kernel
theorem dX9_cheapest_14 : decode cX9_cheapest 14 = .ok (.iconst 0, 1) := by decide +kernel
theorem dX9_cheapest_15 : decode cX9_cheapest 15 = .ok (.invokevirtual 189, 3) := by decide +kernel
theorem dX9_cheapest_18 : decode cX9_cheapest 18 = .ok (.istore_n 3, 1) := by decide +kernel
theorem dX9_cheapest_19 : decode cX9_cheapest 19 = .ok (.iconst 1, 1) := by decide +kernel
theorem dX9_cheapest_20 : decode cX9_cheapest 20 = .ok (.istore 4, 2) := by decide +kernel
theorem dX9_cheapest_22 : decode cX9_cheapest 22 = .ok (.iload 4, 2) := by decide +kernel
theorem dX9_cheapest_24 : decode cX9_cheapest 24 = .ok (.bipush 16, 2) := by decide +kernel
theorem dX9_cheapest_26 : decode cX9_cheapest 26 = .ok (.if_icmp .ge 45, 3) := by decide +kernel
theorem dX9_cheapest_29 : decode cX9_cheapest 29 = .ok (.aload_n 0, 1) := by decide +kernel
theorem dX9_cheapest_30 : decode cX9_cheapest 30 = .ok (.iload 4, 2) := by decide +kernel
theorem dX9_cheapest_32 : decode cX9_cheapest 32 = .ok (.iload_n 1, 1) := by decide +kernel
theorem dX9_cheapest_33 : decode cX9_cheapest 33 = .ok (.iconst 0, 1) := by decide +kernel
theorem dX9_cheapest_34 : decode cX9_cheapest 34 = .ok (.invokevirtual 189, 3) := by decide +kernel
theorem dX9_cheapest_37 : decode cX9_cheapest 37 = .ok (.istore 5, 2) := by decide +kernel
theorem dX9_cheapest_39 : decode cX9_cheapest 39 = .ok (.iload 5, 2) := by decide +kernel
theorem dX9_cheapest_41 : decode cX9_cheapest 41 = .ok (.iload_n 3, 1) := by decide +kernel
theorem dX9_cheapest_42 : decode cX9_cheapest 42 = .ok (.if_icmp .ge 8, 3) := by decide +kernel
theorem dX9_cheapest_45 : decode cX9_cheapest 45 = .ok (.iload 4, 2) := by decide +kernel
theorem dX9_cheapest_47 : decode cX9_cheapest 47 = .ok (.goto 4, 3) := by decide +kernel
theorem dX9_cheapest_50 : decode cX9_cheapest 50 = .ok (.iload_n 2, 1) := by decide +kernel
theorem dX9_cheapest_51 : decode cX9_cheapest 51 = .ok (.istore_n 2, 1) := by decide +kernel
theorem dX9_cheapest_52 : decode cX9_cheapest 52 = .ok (.iload 5, 2) := by decide +kernel
theorem dX9_cheapest_54 : decode cX9_cheapest 54 = .ok (.iload_n 3, 1) := by decide +kernel
theorem dX9_cheapest_55 : decode cX9_cheapest 55 = .ok (.if_icmp .ge 8, 3) := by decide +kernel
theorem dX9_cheapest_58 : decode cX9_cheapest 58 = .ok (.iload 5, 2) := by decide +kernel
theorem dX9_cheapest_60 : decode cX9_cheapest 60 = .ok (.goto 4, 3) := by decide +kernel
theorem dX9_cheapest_63 : decode cX9_cheapest 63 = .ok (.iload_n 3, 1) := by decide +kernel
theorem dX9_cheapest_64 : decode cX9_cheapest 64 = .ok (.istore_n 3, 1) := by decide +kernel
theorem dX9_cheapest_65 : decode cX9_cheapest 65 = .ok (.iinc 4 1, 3) := by decide +kernel
theorem dX9_cheapest_68 : decode cX9_cheapest 68 = .ok (.goto (-46), 3) := by decide +kernel
theorem dX9_cheapest_71 : decode cX9_cheapest 71 = .ok (.iload_n 2, 1) := by decide +kernel
theorem dX9_cheapest_72 : decode cX9_cheapest 72 = .ok (.ireturn, 1) := by decide +kernel
theorem dX9_fewestWasted_0 : decode cX9_fewestWasted 0 = .ok (.aload_n 0, 1) := by decide +kernel
theorem dX9_fewestWasted_1 : decode cX9_fewestWasted 1 = .ok (.iconst 0, 1) := by decide +kernel
theorem dX9_fewestWasted_2 : decode cX9_fewestWasted 2 = .ok (.iload_n 1, 1) := by decide +kernel
theorem dX9_fewestWasted_3 : decode cX9_fewestWasted 3 = .ok (.iconst 1, 1) := by decide +kernel
theorem dX9_fewestWasted_4 : decode cX9_fewestWasted 4 = .ok (.invokevirtual 189, 3) := by decide +kernel
theorem dX9_fewestWasted_7 : decode cX9_fewestWasted 7 = .ok (.istore_n 2, 1) := by decide +kernel
theorem dX9_fewestWasted_8 : decode cX9_fewestWasted 8 = .ok (.iconst 1, 1) := by decide +kernel
theorem dX9_fewestWasted_9 : decode cX9_fewestWasted 9 = .ok (.istore_n 3, 1) := by decide +kernel
theorem dX9_fewestWasted_10 : decode cX9_fewestWasted 10 = .ok (.iload_n 3, 1) := by decide +kernel
theorem dX9_fewestWasted_11 : decode cX9_fewestWasted 11 = .ok (.bipush 16, 2) := by decide +kernel
theorem dX9_fewestWasted_13 : decode cX9_fewestWasted 13 = .ok (.if_icmp .ge 35, 3) := by decide +kernel
theorem dX9_fewestWasted_16 : decode cX9_fewestWasted 16 = .ok (.iload_n 2, 1) := by decide +kernel
theorem dX9_fewestWasted_17 : decode cX9_fewestWasted 17 = .ok (.ifCond .le 31, 3) := by decide +kernel
theorem dX9_fewestWasted_20 : decode cX9_fewestWasted 20 = .ok (.aload_n 0, 1) := by decide +kernel
theorem dX9_fewestWasted_21 : decode cX9_fewestWasted 21 = .ok (.iload_n 3, 1) := by decide +kernel
theorem dX9_fewestWasted_22 : decode cX9_fewestWasted 22 = .ok (.iload_n 1, 1) := by decide +kernel
theorem dX9_fewestWasted_23 : decode cX9_fewestWasted 23 = .ok (.iconst 1, 1) := by decide +kernel
theorem dX9_fewestWasted_24 : decode cX9_fewestWasted 24 = .ok (.invokevirtual 189, 3) := by decide +kernel
theorem dX9_fewestWasted_27 : decode cX9_fewestWasted 27 = .ok (.istore 4, 2) := by decide +kernel
theorem dX9_fewestWasted_29 : decode cX9_fewestWasted 29 = .ok (.iload 4, 2) := by decide +kernel
theorem dX9_fewestWasted_31 : decode cX9_fewestWasted 31 = .ok (.iload_n 2, 1) := by decide +kernel
theorem dX9_fewestWasted_32 : decode cX9_fewestWasted 32 = .ok (.if_icmp .ge 8, 3) := by decide +kernel
theorem dX9_fewestWasted_35 : decode cX9_fewestWasted 35 = .ok (.iload 4, 2) := by decide +kernel
theorem dX9_fewestWasted_37 : decode cX9_fewestWasted 37 = .ok (.goto 4, 3) := by decide +kernel
theorem dX9_fewestWasted_40 : decode cX9_fewestWasted 40 = .ok (.iload_n 2, 1) := by decide +kernel
theorem dX9_fewestWasted_41 : decode cX9_fewestWasted 41 = .ok (.istore_n 2, 1) := by decide +kernel
theorem dX9_fewestWasted_42 : decode cX9_fewestWasted 42 = .ok (.iinc 3 1, 3) := by decide +kernel
theorem dX9_fewestWasted_45 : decode cX9_fewestWasted 45 = .ok (.goto (-35), 3) := by decide +kernel
theorem dX9_fewestWasted_48 : decode cX9_fewestWasted 48 = .ok (.iload_n 2, 1) := by decide +kernel
theorem dX9_fewestWasted_49 : decode cX9_fewestWasted 49 = .ok (.ireturn, 1) := by decide +kernel
theorem dX9_loudest_0 : decode cX9_loudest 0 = .ok (.iload_n 1, 1) := by decide +kernel
theorem dX9_loudest_1 : decode cX9_loudest 1 = .ok (.iconst 0, 1) := by decide +kernel
theorem dX9_loudest_2 : decode cX9_loudest 2 = .ok (.iconst 1, 1) := by decide +kernel
theorem dX9_loudest_3 : decode cX9_loudest 3 = .ok (.invokestatic 35, 3) := by decide +kernel
theorem dX9_loudest_6 : decode cX9_loudest 6 = .ok (.ifCond .ne 6, 3) := by decide +kernel
theorem dX9_loudest_9 : decode cX9_loudest 9 = .ok (.bipush (-2), 2) := by decide +kernel
theorem dX9_loudest_11 : decode cX9_loudest 11 = .ok (.ireturn, 1) := by decide +kernel
theorem dX9_loudest_12 : decode cX9_loudest 12 = .ok (.bipush (-6), 2) := by decide +kernel
theorem dX9_loudest_14 : decode cX9_loudest 14 = .ok (.istore_n 2, 1) := by decide +kernel
theorem dX9_loudest_15 : decode cX9_loudest 15 = .ok (.iconst 0, 1) := by decide +kernel
theorem dX9_loudest_16 : decode cX9_loudest 16 = .ok (.istore_n 3, 1) := by decide +kernel
theorem dX9_loudest_17 : decode cX9_loudest 17 = .ok (.iconst 0, 1) := by decide +kernel
theorem dX9_loudest_18 : decode cX9_loudest 18 = .ok (.istore 4, 2) := by decide +kernel
theorem dX9_loudest_20 : decode cX9_loudest 20 = .ok (.iload 4, 2) := by decide +kernel
theorem dX9_loudest_22 : decode cX9_loudest 22 = .ok (.bipush 24, 2) := by decide +kernel
theorem dX9_loudest_24 : decode cX9_loudest 24 = .ok (.if_icmp .ge 43, 3) := by decide +kernel
theorem dX9_loudest_27 : decode cX9_loudest 27 = .ok (.aload_n 0, 1) := by decide +kernel
theorem dX9_loudest_28 : decode cX9_loudest 28 = .ok (.iload 4, 2) := by decide +kernel
theorem dX9_loudest_30 : decode cX9_loudest 30 = .ok (.invokevirtual 192, 3) := by decide +kernel
theorem dX9_loudest_33 : decode cX9_loudest 33 = .ok (.istore 5, 2) := by decide +kernel
theorem dX9_loudest_35 : decode cX9_loudest 35 = .ok (.iload 5, 2) := by decide +kernel
theorem dX9_loudest_37 : decode cX9_loudest 37 = .ok (.iload_n 3, 1) := by decide +kernel
theorem dX9_loudest_38 : decode cX9_loudest 38 = .ok (.if_icmp .le 8, 3) := by decide +kernel
theorem dX9_loudest_41 : decode cX9_loudest 41 = .ok (.iload 4, 2) := by decide +kernel
theorem dX9_loudest_43 : decode cX9_loudest 43 = .ok (.goto 4, 3) := by decide +kernel
theorem dX9_loudest_46 : decode cX9_loudest 46 = .ok (.iload_n 2, 1) := by decide +kernel
theorem dX9_loudest_47 : decode cX9_loudest 47 = .ok (.istore_n 2, 1) := by decide +kernel
theorem dX9_loudest_48 : decode cX9_loudest 48 = .ok (.iload 5, 2) := by decide +kernel
theorem dX9_loudest_50 : decode cX9_loudest 50 = .ok (.iload_n 3, 1) := by decide +kernel
theorem dX9_loudest_51 : decode cX9_loudest 51 = .ok (.if_icmp .le 8, 3) := by decide +kernel
theorem dX9_loudest_54 : decode cX9_loudest 54 = .ok (.iload 5, 2) := by decide +kernel
theorem dX9_loudest_56 : decode cX9_loudest 56 = .ok (.goto 4, 3) := by decide +kernel
theorem dX9_loudest_59 : decode cX9_loudest 59 = .ok (.iload_n 3, 1) := by decide +kernel
theorem dX9_loudest_60 : decode cX9_loudest 60 = .ok (.istore_n 3, 1) := by decide +kernel
theorem dX9_loudest_61 : decode cX9_loudest 61 = .ok (.iinc 4 1, 3) := by decide +kernel
theorem dX9_loudest_64 : decode cX9_loudest 64 = .ok (.goto (-44), 3) := by decide +kernel
theorem dX9_loudest_67 : decode cX9_loudest 67 = .ok (.iload_n 2, 1) := by decide +kernel
theorem dX9_loudest_68 : decode cX9_loudest 68 = .ok (.ifCond .lt 7, 3) := by decide +kernel
theorem dX9_loudest_71 : decode cX9_loudest 71 = .ok (.iload_n 1, 1) := by decide +kernel
theorem dX9_loudest_72 : decode cX9_loudest 72 = .ok (.ifCond .ne 7, 3) := by decide +kernel
theorem dX9_loudest_75 : decode cX9_loudest 75 = .ok (.iload_n 2, 1) := by decide +kernel
theorem dX9_loudest_76 : decode cX9_loudest 76 = .ok (.goto 4, 3) := by decide +kernel
theorem dX9_loudest_79 : decode cX9_loudest 79 = .ok (.iload_n 3, 1) := by decide +kernel
theorem dX9_loudest_80 : decode cX9_loudest 80 = .ok (.ireturn, 1) := by decide +kernel
theorem dX9_messagesWith_0 : decode cX9_messagesWith 0 = .ok (.aload_n 0, 1) := by decide +kernel
theorem dX9_messagesWith_1 : decode cX9_messagesWith 1 = .ok (.invokevirtual 183, 3) := by decide +kernel
theorem dX9_messagesWith_4 : decode cX9_messagesWith 4 = .ok (.iconst 0, 1) := by decide +kernel
theorem dX9_messagesWith_5 : decode cX9_messagesWith 5 = .ok (.istore_n 3, 1) := by decide +kernel
theorem dX9_messagesWith_6 : decode cX9_messagesWith 6 = .ok (.iload_n 3, 1) := by decide +kernel
theorem dX9_messagesWith_7 : decode cX9_messagesWith 7 = .ok (.bipush 16, 2) := by decide +kernel
theorem dX9_messagesWith_9 : decode cX9_messagesWith 9 = .ok (.if_icmp .ge 24, 3) := by decide +kernel
theorem dX9_messagesWith_12 : decode cX9_messagesWith 12 = .ok (.aload_n 0, 1) := by decide +kernel
theorem dX9_messagesWith_13 : decode cX9_messagesWith 13 = .ok (.getfield 7, 3) := by decide +kernel
theorem dX9_messagesWith_16 : decode cX9_messagesWith 16 = .ok (.sipush 128, 3) := by decide +kernel
theorem dX9_messagesWith_19 : decode cX9_messagesWith 19 = .ok (.iconst 5, 1) := by decide +kernel
theorem dX9_messagesWith_20 : decode cX9_messagesWith 20 = .ok (.iload_n 3, 1) := by decide +kernel
theorem dX9_messagesWith_21 : decode cX9_messagesWith 21 = .ok (.imul, 1) := by decide +kernel
theorem dX9_messagesWith_22 : decode cX9_messagesWith 22 = .ok (.iadd, 1) := by decide +kernel
theorem dX9_messagesWith_23 : decode cX9_messagesWith 23 = .ok (.iconst 0, 1) := by decide +kernel
theorem dX9_messagesWith_24 : decode cX9_messagesWith 24 = .ok (.iadd, 1) := by decide +kernel
theorem dX9_messagesWith_25 : decode cX9_messagesWith 25 = .ok (.iconst 0, 1) := by decide +kernel
theorem dX9_messagesWith_26 : decode cX9_messagesWith 26 = .ok (.iastore, 1) := by decide +kernel
theorem dX9_messagesWith_27 : decode cX9_messagesWith 27 = .ok (.iinc 3 1, 3) := by decide +kernel
theorem dX9_messagesWith_30 : decode cX9_messagesWith 30 = .ok (.goto (-24), 3) := by decide +kernel
theorem dX9_messagesWith_33 : decode cX9_messagesWith 33 = .ok (.iconst 0, 1) := by decide +kernel
theorem dX9_messagesWith_34 : decode cX9_messagesWith 34 = .ok (.istore_n 3, 1) := by decide +kernel
theorem dX9_messagesWith_35 : decode cX9_messagesWith 35 = .ok (.iload_n 3, 1) := by decide +kernel
theorem dX9_messagesWith_36 : decode cX9_messagesWith 36 = .ok (.bipush 24, 2) := by decide +kernel
theorem dX9_messagesWith_38 : decode cX9_messagesWith 38 = .ok (.if_icmp .ge 16, 3) := by decide +kernel
theorem dX9_messagesWith_41 : decode cX9_messagesWith 41 = .ok (.aload_n 0, 1) := by decide +kernel
theorem dX9_messagesWith_42 : decode cX9_messagesWith 42 = .ok (.iload_n 3, 1) := by decide +kernel
theorem dX9_messagesWith_43 : decode cX9_messagesWith 43 = .ok (.iconst 0, 1) := by decide +kernel
theorem dX9_messagesWith_44 : decode cX9_messagesWith 44 = .ok (.iconst 0, 1) := by decide +kernel
theorem dX9_messagesWith_45 : decode cX9_messagesWith 45 = .ok (.invokevirtual 86, 3) := by decide +kernel
theorem dX9_messagesWith_48 : decode cX9_messagesWith 48 = .ok (.iinc 3 1, 3) := by decide +kernel
theorem dX9_messagesWith_51 : decode cX9_messagesWith 51 = .ok (.goto (-16), 3) := by decide +kernel
theorem dX9_messagesWith_54 : decode cX9_messagesWith 54 = .ok (.aload_n 0, 1) := by decide +kernel
theorem dX9_messagesWith_55 : decode cX9_messagesWith 55 = .ok (.getfield 7, 3) := by decide +kernel
theorem dX9_messagesWith_58 : decode cX9_messagesWith 58 = .ok (.iconst 0, 1) := by decide +kernel
theorem dX9_messagesWith_59 : decode cX9_messagesWith 59 = .ok (.iload_n 1, 1) := by decide +kernel
theorem dX9_messagesWith_60 : decode cX9_messagesWith 60 = .ok (.iastore, 1) := by decide +kernel
theorem dX9_messagesWith_61 : decode cX9_messagesWith 61 = .ok (.aload_n 0, 1) := by decide +kernel
theorem dX9_messagesWith_62 : decode cX9_messagesWith 62 = .ok (.getfield 7, 3) := by decide +kernel
theorem dX9_messagesWith_65 : decode cX9_messagesWith 65 = .ok (.iconst 1, 1) := by decide +kernel
theorem dX9_messagesWith_66 : decode cX9_messagesWith 66 = .ok (.iload_n 2, 1) := by decide +kernel
theorem dX9_messagesWith_67 : decode cX9_messagesWith 67 = .ok (.iastore, 1) := by decide +kernel
theorem dX9_messagesWith_68 : decode cX9_messagesWith 68 = .ok (.aload_n 0, 1) := by decide +kernel
theorem dX9_messagesWith_69 : decode cX9_messagesWith 69 = .ok (.getfield 7, 3) := by decide +kernel
theorem dX9_messagesWith_72 : decode cX9_messagesWith 72 = .ok (.iconst 4, 1) := by decide +kernel
theorem dX9_messagesWith_73 : decode cX9_messagesWith 73 = .ok (.iconst 0, 1) := by decide +kernel
theorem dX9_messagesWith_74 : decode cX9_messagesWith 74 = .ok (.iastore, 1) := by decide +kernel
theorem dX9_messagesWith_75 : decode cX9_messagesWith 75 = .ok (.iconst 0, 1) := by decide +kernel
theorem dX9_messagesWith_76 : decode cX9_messagesWith 76 = .ok (.istore_n 3, 1) := by decide +kernel
theorem dX9_messagesWith_77 : decode cX9_messagesWith 77 = .ok (.iload_n 3, 1) := by decide +kernel
theorem dX9_messagesWith_78 : decode cX9_messagesWith 78 = .ok (.aload_n 0, 1) := by decide +kernel
theorem dX9_messagesWith_79 : decode cX9_messagesWith 79 = .ok (.getfield 7, 3) := by decide +kernel
theorem dX9_messagesWith_82 : decode cX9_messagesWith 82 = .ok (.bipush 7, 2) := by decide +kernel
theorem dX9_messagesWith_84 : decode cX9_messagesWith 84 = .ok (.iaload, 1) := by decide +kernel
theorem dX9_messagesWith_85 : decode cX9_messagesWith 85 = .ok (.if_icmp .ge 68, 3) := by decide +kernel
theorem dX9_messagesWith_88 : decode cX9_messagesWith 88 = .ok (.aload_n 0, 1) := by decide +kernel
theorem dX9_messagesWith_89 : decode cX9_messagesWith 89 = .ok (.getfield 7, 3) := by decide +kernel
theorem dX9_messagesWith_92 : decode cX9_messagesWith 92 = .ok (.sipush 592, 3) := by decide +kernel
theorem dX9_messagesWith_95 : decode cX9_messagesWith 95 = .ok (.iload_n 3, 1) := by decide +kernel
theorem dX9_messagesWith_96 : decode cX9_messagesWith 96 = .ok (.iadd, 1) := by decide +kernel
theorem dX9_messagesWith_97 : decode cX9_messagesWith 97 = .ok (.iaload, 1) := by decide +kernel
theorem dX9_messagesWith_98 : decode cX9_messagesWith 98 = .ok (.istore 4, 2) := by decide +kernel
theorem dX9_messagesWith_100 : decode cX9_messagesWith 100 = .ok (.iload 4, 2) := by decide +kernel
theorem dX9_messagesWith_102 : decode cX9_messagesWith 102 = .ok (.iconst 2, 1) := by decide +kernel
theorem dX9_messagesWith_103 : decode cX9_messagesWith 103 = .ok (.idiv, 1) := by decide +kernel
theorem dX9_messagesWith_104 : decode cX9_messagesWith 104 = .ok (.bipush 24, 2) := by decide +kernel
theorem dX9_messagesWith_106 : decode cX9_messagesWith 106 = .ok (.idiv, 1) := by decide +kernel
theorem dX9_messagesWith_107 : decode cX9_messagesWith 107 = .ok (.istore 5, 2) := by decide +kernel
theorem dX9_messagesWith_109 : decode cX9_messagesWith 109 = .ok (.iload 4, 2) := by decide +kernel
theorem dX9_messagesWith_111 : decode cX9_messagesWith 111 = .ok (.iconst 2, 1) := by decide +kernel
theorem dX9_messagesWith_112 : decode cX9_messagesWith 112 = .ok (.idiv, 1) := by decide +kernel
theorem dX9_messagesWith_113 : decode cX9_messagesWith 113 = .ok (.bipush 24, 2) := by decide +kernel
theorem dX9_messagesWith_115 : decode cX9_messagesWith 115 = .ok (.irem, 1) := by decide +kernel
theorem dX9_messagesWith_116 : decode cX9_messagesWith 116 = .ok (.istore 6, 2) := by decide +kernel
theorem dX9_messagesWith_118 : decode cX9_messagesWith 118 = .ok (.iload 4, 2) := by decide +kernel
theorem dX9_messagesWith_120 : decode cX9_messagesWith 120 = .ok (.iconst 2, 1) := by decide +kernel
theorem dX9_messagesWith_121 : decode cX9_messagesWith 121 = .ok (.irem, 1) := by decide +kernel
theorem dX9_messagesWith_122 : decode cX9_messagesWith 122 = .ok (.ifCond .ne 15, 3) := by decide +kernel
theorem dX9_messagesWith_125 : decode cX9_messagesWith 125 = .ok (.aload_n 0, 1) := by decide +kernel
theorem dX9_messagesWith_126 : decode cX9_messagesWith 126 = .ok (.iload 5, 2) := by decide +kernel
theorem dX9_messagesWith_128 : decode cX9_messagesWith 128 = .ok (.iload 6, 2) := by decide +kernel
theorem dX9_messagesWith_130 : decode cX9_messagesWith 130 = .ok (.invokevirtual 143, 3) := by decide +kernel
theorem dX9_messagesWith_133 : decode cX9_messagesWith 133 = .ok (.pop, 1) := by decide +kernel
theorem dX9_messagesWith_134 : decode cX9_messagesWith 134 = .ok (.goto 13, 3) := by decide +kernel
theorem dX9_messagesWith_137 : decode cX9_messagesWith 137 = .ok (.aload_n 0, 1) := by decide +kernel
theorem dX9_messagesWith_138 : decode cX9_messagesWith 138 = .ok (.iload 5, 2) := by decide +kernel
theorem dX9_messagesWith_140 : decode cX9_messagesWith 140 = .ok (.iload 6, 2) := by decide +kernel
theorem dX9_messagesWith_142 : decode cX9_messagesWith 142 = .ok (.iconst 0, 1) := by decide +kernel
theorem dX9_messagesWith_143 : decode cX9_messagesWith 143 = .ok (.invokevirtual 150, 3) := by decide +kernel
theorem dX9_messagesWith_146 : decode cX9_messagesWith 146 = .ok (.pop, 1) := by decide +kernel
theorem dX9_messagesWith_147 : decode cX9_messagesWith 147 = .ok (.iinc 3 1, 3) := by decide +kernel
theorem dX9_messagesWith_150 : decode cX9_messagesWith 150 = .ok (.goto (-73), 3) := by decide +kernel
theorem dX9_messagesWith_153 : decode cX9_messagesWith 153 = .ok (.aload_n 0, 1) := by decide +kernel
theorem dX9_messagesWith_154 : decode cX9_messagesWith 154 = .ok (.getfield 7, 3) := by decide +kernel
theorem dX9_messagesWith_157 : decode cX9_messagesWith 157 = .ok (.iconst 4, 1) := by decide +kernel
theorem dX9_messagesWith_158 : decode cX9_messagesWith 158 = .ok (.iaload, 1) := by decide +kernel
theorem dX9_messagesWith_159 : decode cX9_messagesWith 159 = .ok (.istore_n 3, 1) := by decide +kernel
theorem dX9_messagesWith_160 : decode cX9_messagesWith 160 = .ok (.aload_n 0, 1) := by decide +kernel
theorem dX9_messagesWith_161 : decode cX9_messagesWith 161 = .ok (.invokevirtual 186, 3) := by decide +kernel
theorem dX9_messagesWith_164 : decode cX9_messagesWith 164 = .ok (.iload_n 3, 1) := by decide +kernel
theorem dX9_messagesWith_165 : decode cX9_messagesWith 165 = .ok (.ireturn, 1) := by decide +kernel
theorem dX9_accountWith_0 : decode cX9_accountWith 0 = .ok (.iload_n 1, 1) := by decide +kernel
theorem dX9_accountWith_1 : decode cX9_accountWith 1 = .ok (.iconst 0, 1) := by decide +kernel
theorem dX9_accountWith_2 : decode cX9_accountWith 2 = .ok (.iconst 4, 1) := by decide +kernel
theorem dX9_accountWith_3 : decode cX9_accountWith 3 = .ok (.invokestatic 35, 3) := by decide +kernel
theorem dX9_accountWith_6 : decode cX9_accountWith 6 = .ok (.ifCond .eq 22, 3) := by decide +kernel
theorem dX9_accountWith_9 : decode cX9_accountWith 9 = .ok (.iload_n 2, 1) := by decide +kernel
theorem dX9_accountWith_10 : decode cX9_accountWith 10 = .ok (.iconst 1, 1) := by decide +kernel
theorem dX9_accountWith_11 : decode cX9_accountWith 11 = .ok (.bipush 8, 2) := by decide +kernel
theorem dX9_accountWith_13 : decode cX9_accountWith 13 = .ok (.invokestatic 35, 3) := by decide +kernel
theorem dX9_accountWith_16 : decode cX9_accountWith 16 = .ok (.ifCond .eq 12, 3) := by decide +kernel
theorem dX9_accountWith_19 : decode cX9_accountWith 19 = .ok (.aload_n 0, 1) := by decide +kernel
theorem dX9_accountWith_20 : decode cX9_accountWith 20 = .ok (.iload_n 1, 1) := by decide +kernel
theorem dX9_accountWith_21 : decode cX9_accountWith 21 = .ok (.iload_n 2, 1) := by decide +kernel
theorem dX9_accountWith_22 : decode cX9_accountWith 22 = .ok (.invokevirtual 195, 3) := by decide +kernel
theorem dX9_accountWith_25 : decode cX9_accountWith 25 = .ok (.goto 5, 3) := by decide +kernel
theorem dX9_accountWith_28 : decode cX9_accountWith 28 = .ok (.bipush (-2), 2) := by decide +kernel
theorem dX9_accountWith_30 : decode cX9_accountWith 30 = .ok (.ireturn, 1) := by decide +kernel
theorem dX9_best_0 : decode cX9_best 0 = .ok (.iload_n 1, 1) := by decide +kernel
theorem dX9_best_1 : decode cX9_best 1 = .ok (.iconst 0, 1) := by decide +kernel
theorem dX9_best_2 : decode cX9_best 2 = .ok (.iconst 2, 1) := by decide +kernel
theorem dX9_best_3 : decode cX9_best 3 = .ok (.invokestatic 35, 3) := by decide +kernel
theorem dX9_best_6 : decode cX9_best 6 = .ok (.ifCond .ne 6, 3) := by decide +kernel
theorem dX9_best_9 : decode cX9_best 9 = .ok (.bipush (-2), 2) := by decide +kernel
theorem dX9_best_11 : decode cX9_best 11 = .ok (.ireturn, 1) := by decide +kernel
theorem dX9_best_12 : decode cX9_best 12 = .ok (.bipush (-6), 2) := by decide +kernel
theorem dX9_best_14 : decode cX9_best 14 = .ok (.istore_n 2, 1) := by decide +kernel
theorem dX9_best_15 : decode cX9_best 15 = .ok (.bipush (-6), 2) := by decide +kernel
theorem dX9_best_17 : decode cX9_best 17 = .ok (.istore_n 3, 1) := by decide +kernel
theorem dX9_best_18 : decode cX9_best 18 = .ok (.iconst 0, 1) := by decide +kernel
theorem dX9_best_19 : decode cX9_best 19 = .ok (.istore 4, 2) := by decide +kernel
theorem dX9_best_21 : decode cX9_best 21 = .ok (.iconst 0, 1) := by decide +kernel
theorem dX9_best_22 : decode cX9_best 22 = .ok (.istore 5, 2) := by decide +kernel
theorem dX9_best_24 : decode cX9_best 24 = .ok (.iload 5, 2) := by decide +kernel
theorem dX9_best_26 : decode cX9_best 26 = .ok (.iconst 4, 1) := by decide +kernel
theorem dX9_best_27 : decode cX9_best 27 = .ok (.if_icmp .gt 56, 3) := by decide +kernel
theorem dX9_best_30 : decode cX9_best 30 = .ok (.iconst 1, 1) := by decide +kernel
theorem dX9_best_31 : decode cX9_best 31 = .ok (.istore 6, 2) := by decide +kernel
theorem dX9_best_33 : decode cX9_best 33 = .ok (.iload 6, 2) := by decide +kernel
theorem dX9_best_35 : decode cX9_best 35 = .ok (.bipush 8, 2) := by decide +kernel
theorem dX9_best_37 : decode cX9_best 37 = .ok (.if_icmp .gt 40, 3) := by decide +kernel
theorem dX9_best_40 : decode cX9_best 40 = .ok (.aload_n 0, 1) := by decide +kernel
theorem dX9_best_41 : decode cX9_best 41 = .ok (.iload 5, 2) := by decide +kernel
theorem dX9_best_43 : decode cX9_best 43 = .ok (.iload 6, 2) := by decide +kernel
theorem dX9_best_45 : decode cX9_best 45 = .ok (.invokevirtual 195, 3) := by decide +kernel
theorem dX9_best_48 : decode cX9_best 48 = .ok (.istore 7, 2) := by decide +kernel
theorem dX9_best_50 : decode cX9_best 50 = .ok (.iload_n 2, 1) := by decide +kernel
theorem dX9_best_51 : decode cX9_best 51 = .ok (.ifCond .lt 10, 3) := by decide +kernel
theorem dX9_best_54 : decode cX9_best 54 = .ok (.iload 7, 2) := by decide +kernel
theorem dX9_best_56 : decode cX9_best 56 = .ok (.iload 4, 2) := by decide +kernel
theorem dX9_best_58 : decode cX9_best 58 = .ok (.if_icmp .ge 13, 3) := by decide +kernel
theorem dX9_best_61 : decode cX9_best 61 = .ok (.iload 5, 2) := by decide +kernel
theorem dX9_best_63 : decode cX9_best 63 = .ok (.istore_n 2, 1) := by decide +kernel
theorem dX9_best_64 : decode cX9_best 64 = .ok (.iload 6, 2) := by decide +kernel
theorem dX9_best_66 : decode cX9_best 66 = .ok (.istore_n 3, 1) := by decide +kernel
theorem dX9_best_67 : decode cX9_best 67 = .ok (.iload 7, 2) := by decide +kernel
theorem dX9_best_69 : decode cX9_best 69 = .ok (.istore 4, 2) := by decide +kernel
theorem dX9_best_71 : decode cX9_best 71 = .ok (.iinc 6 1, 3) := by decide +kernel
theorem dX9_best_74 : decode cX9_best 74 = .ok (.goto (-41), 3) := by decide +kernel
theorem dX9_best_77 : decode cX9_best 77 = .ok (.iinc 5 1, 3) := by decide +kernel
theorem dX9_best_80 : decode cX9_best 80 = .ok (.goto (-56), 3) := by decide +kernel
theorem dX9_best_83 : decode cX9_best 83 = .ok (.iload_n 1, 1) := by decide +kernel
theorem dX9_best_84 : decode cX9_best 84 = .ok (.ifCond .ne 7, 3) := by decide +kernel
theorem dX9_best_87 : decode cX9_best 87 = .ok (.iload_n 2, 1) := by decide +kernel
theorem dX9_best_88 : decode cX9_best 88 = .ok (.goto 14, 3) := by decide +kernel
theorem dX9_best_91 : decode cX9_best 91 = .ok (.iload_n 1, 1) := by decide +kernel
theorem dX9_best_92 : decode cX9_best 92 = .ok (.iconst 1, 1) := by decide +kernel
theorem dX9_best_93 : decode cX9_best 93 = .ok (.if_icmp .ne 7, 3) := by decide +kernel
theorem dX9_best_96 : decode cX9_best 96 = .ok (.iload_n 3, 1) := by decide +kernel
theorem dX9_best_97 : decode cX9_best 97 = .ok (.goto 5, 3) := by decide +kernel
theorem dX9_best_100 : decode cX9_best 100 = .ok (.iload 4, 2) := by decide +kernel
theorem dX9_best_102 : decode cX9_best 102 = .ok (.ireturn, 1) := by decide +kernel
theorem dX9_account_0 : decode cX9_account 0 = .ok (.aload_n 0, 1) := by decide +kernel
theorem dX9_account_1 : decode cX9_account 1 = .ok (.invokevirtual 46, 3) := by decide +kernel
theorem dX9_account_4 : decode cX9_account 4 = .ok (.aload_n 0, 1) := by decide +kernel
theorem dX9_account_5 : decode cX9_account 5 = .ok (.getfield 7, 3) := by decide +kernel
theorem dX9_account_8 : decode cX9_account 8 = .ok (.bipush 7, 2) := by decide +kernel
theorem dX9_account_10 : decode cX9_account 10 = .ok (.iaload, 1) := by decide +kernel
theorem dX9_account_11 : decode cX9_account 11 = .ok (.istore_n 1, 1) := by decide +kernel
theorem dX9_account_12 : decode cX9_account 12 = .ok (.aload_n 0, 1) := by decide +kernel
theorem dX9_account_13 : decode cX9_account 13 = .ok (.getfield 7, 3) := by decide +kernel
theorem dX9_account_16 : decode cX9_account 16 = .ok (.bipush 7, 2) := by decide +kernel
theorem dX9_account_18 : decode cX9_account 18 = .ok (.iconst 0, 1) := by decide +kernel
theorem dX9_account_19 : decode cX9_account 19 = .ok (.iastore, 1) := by decide +kernel
theorem dX9_account_20 : decode cX9_account 20 = .ok (.iload_n 1, 1) := by decide +kernel
theorem dX9_account_21 : decode cX9_account 21 = .ok (.ireturn, 1) := by decide +kernel
theorem dX9_put_0 : decode cX9_put 0 = .ok (.iconst 0, 1) := by decide +kernel
theorem dX9_put_1 : decode cX9_put 1 = .ok (.istore_n 3, 1) := by decide +kernel
theorem dX9_put_2 : decode cX9_put 2 = .ok (.lload_n 1, 1) := by decide +kernel
theorem dX9_put_3 : decode cX9_put 3 = .ok (.lstore 4, 2) := by decide +kernel
theorem dX9_put_5 : decode cX9_put 5 = .ok (.iload_n 3, 1) := by decide +kernel
theorem dX9_put_6 : decode cX9_put 6 = .ok (.bipush 8, 2) := by decide +kernel
theorem dX9_put_8 : decode cX9_put 8 = .ok (.if_icmp .ge 47, 3) := by decide +kernel
theorem dX9_put_11 : decode cX9_put 11 = .ok (.lload 4, 2) := by decide +kernel
theorem dX9_put_13 : decode cX9_put 13 = .ok (.ldc2_w 198, 3) := by decide +kernel
theorem dX9_put_16 : decode cX9_put 16 = .ok (.land, 1) := by decide +kernel
theorem dX9_put_17 : decode cX9_put 17 = .ok (.lconst 0, 1) := by decide +kernel
theorem dX9_put_18 : decode cX9_put 18 = .ok (.lcmp, 1) := by decide +kernel
theorem dX9_put_19 : decode cX9_put 19 = .ok (.ifCond .eq 36, 3) := by decide +kernel
theorem dX9_put_22 : decode cX9_put 22 = .ok (.lload 4, 2) := by decide +kernel
theorem dX9_put_24 : decode cX9_put 24 = .ok (.ldc2_w 198, 3) := by decide +kernel
theorem dX9_put_27 : decode cX9_put 27 = .ok (.land, 1) := by decide +kernel
theorem dX9_put_28 : decode cX9_put 28 = .ok (.l2i, 1) := by decide +kernel
theorem dX9_put_29 : decode cX9_put 29 = .ok (.bipush 33, 2) := by decide +kernel
theorem dX9_put_31 : decode cX9_put 31 = .ok (.bipush 126, 2) := by decide +kernel
theorem dX9_put_33 : decode cX9_put 33 = .ok (.invokestatic 35, 3) := by decide +kernel
theorem dX9_put_36 : decode cX9_put 36 = .ok (.ifCond .ne 6, 3) := by decide +kernel
theorem dX9_put_39 : decode cX9_put 39 = .ok (.bipush (-2), 2) := by decide +kernel
theorem dX9_put_41 : decode cX9_put 41 = .ok (.ireturn, 1) := by decide +kernel
theorem dX9_put_42 : decode cX9_put 42 = .ok (.iinc 3 1, 3) := by decide +kernel
theorem dX9_put_45 : decode cX9_put 45 = .ok (.lload 4, 2) := by decide +kernel
theorem dX9_put_47 : decode cX9_put 47 = .ok (.bipush 8, 2) := by decide +kernel
theorem dX9_put_49 : decode cX9_put 49 = .ok (.lushr, 1) := by decide +kernel
theorem dX9_put_50 : decode cX9_put 50 = .ok (.lstore 4, 2) := by decide +kernel
theorem dX9_put_52 : decode cX9_put 52 = .ok (.goto (-47), 3) := by decide +kernel
theorem dX9_put_55 : decode cX9_put 55 = .ok (.iload_n 3, 1) := by decide +kernel
theorem dX9_put_56 : decode cX9_put 56 = .ok (.ifCond .eq 10, 3) := by decide +kernel
theorem dX9_put_59 : decode cX9_put 59 = .ok (.lload 4, 2) := by decide +kernel
theorem dX9_put_61 : decode cX9_put 61 = .ok (.lconst 0, 1) := by decide +kernel
theorem dX9_put_62 : decode cX9_put 62 = .ok (.lcmp, 1) := by decide +kernel
theorem dX9_put_63 : decode cX9_put 63 = .ok (.ifCond .eq 6, 3) := by decide +kernel
theorem dX9_put_66 : decode cX9_put 66 = .ok (.bipush (-2), 2) := by decide +kernel
theorem dX9_put_68 : decode cX9_put 68 = .ok (.ireturn, 1) := by decide +kernel
theorem dX9_put_69 : decode cX9_put 69 = .ok (.aload_n 0, 1) := by decide +kernel
theorem dX9_put_70 : decode cX9_put 70 = .ok (.getfield 180, 3) := by decide +kernel
theorem dX9_put_73 : decode cX9_put 73 = .ok (.iload_n 3, 1) := by decide +kernel
theorem dX9_put_74 : decode cX9_put 74 = .ok (.iadd, 1) := by decide +kernel
theorem dX9_put_75 : decode cX9_put 75 = .ok (.bipush 80, 2) := by decide +kernel
theorem dX9_put_77 : decode cX9_put 77 = .ok (.if_icmp .le 6, 3) := by decide +kernel
theorem dX9_put_80 : decode cX9_put 80 = .ok (.bipush (-4), 2) := by decide +kernel
theorem dX9_put_82 : decode cX9_put 82 = .ok (.ireturn, 1) := by decide +kernel
theorem dX9_put_83 : decode cX9_put 83 = .ok (.iconst 0, 1) := by decide +kernel
theorem dX9_put_84 : decode cX9_put 84 = .ok (.istore 6, 2) := by decide +kernel
theorem dX9_put_86 : decode cX9_put 86 = .ok (.iload 6, 2) := by decide +kernel
theorem dX9_put_88 : decode cX9_put 88 = .ok (.iload_n 3, 1) := by decide +kernel
theorem dX9_put_89 : decode cX9_put 89 = .ok (.if_icmp .ge 37, 3) := by decide +kernel
theorem dX9_put_92 : decode cX9_put 92 = .ok (.aload_n 0, 1) := by decide +kernel
theorem dX9_put_93 : decode cX9_put 93 = .ok (.getfield 26, 3) := by decide +kernel
theorem dX9_put_96 : decode cX9_put 96 = .ok (.aload_n 0, 1) := by decide +kernel
theorem dX9_put_97 : decode cX9_put 97 = .ok (.getfield 180, 3) := by decide +kernel
theorem dX9_put_100 : decode cX9_put 100 = .ok (.iload 6, 2) := by decide +kernel
theorem dX9_put_102 : decode cX9_put 102 = .ok (.iadd, 1) := by decide +kernel
theorem dX9_put_103 : decode cX9_put 103 = .ok (.lload_n 1, 1) := by decide +kernel
theorem dX9_put_104 : decode cX9_put 104 = .ok (.bipush 8, 2) := by decide +kernel
theorem dX9_put_106 : decode cX9_put 106 = .ok (.iload_n 3, 1) := by decide +kernel
theorem dX9_put_107 : decode cX9_put 107 = .ok (.iconst 1, 1) := by decide +kernel
theorem dX9_put_108 : decode cX9_put 108 = .ok (.isub, 1) := by decide +kernel
theorem dX9_put_109 : decode cX9_put 109 = .ok (.iload 6, 2) := by decide +kernel
theorem dX9_put_111 : decode cX9_put 111 = .ok (.isub, 1) := by decide +kernel
theorem dX9_put_112 : decode cX9_put 112 = .ok (.imul, 1) := by decide +kernel
theorem dX9_put_113 : decode cX9_put 113 = .ok (.lshr, 1) := by decide +kernel
theorem dX9_put_114 : decode cX9_put 114 = .ok (.ldc2_w 198, 3) := by decide +kernel
theorem dX9_put_117 : decode cX9_put 117 = .ok (.land, 1) := by decide +kernel
theorem dX9_put_118 : decode cX9_put 118 = .ok (.l2i, 1) := by decide +kernel
theorem dX9_put_119 : decode cX9_put 119 = .ok (.iastore, 1) := by decide +kernel
theorem dX9_put_120 : decode cX9_put 120 = .ok (.iinc 6 1, 3) := by decide +kernel
theorem dX9_put_123 : decode cX9_put 123 = .ok (.goto (-37), 3) := by decide +kernel
theorem dX9_put_126 : decode cX9_put 126 = .ok (.aload_n 0, 1) := by decide +kernel
theorem dX9_put_127 : decode cX9_put 127 = .ok (.dup, 1) := by decide +kernel
theorem dX9_put_128 : decode cX9_put 128 = .ok (.getfield 180, 3) := by decide +kernel
theorem dX9_put_131 : decode cX9_put 131 = .ok (.iload_n 3, 1) := by decide +kernel
theorem dX9_put_132 : decode cX9_put 132 = .ok (.iadd, 1) := by decide +kernel
theorem dX9_put_133 : decode cX9_put 133 = .ok (.putfield 180, 3) := by decide +kernel
theorem dX9_put_136 : decode cX9_put 136 = .ok (.aload_n 0, 1) := by decide +kernel
theorem dX9_put_137 : decode cX9_put 137 = .ok (.getfield 180, 3) := by decide +kernel
theorem dX9_put_140 : decode cX9_put 140 = .ok (.ireturn, 1) := by decide +kernel
theorem dX9_wipe_0 : decode cX9_wipe 0 = .ok (.aload_n 0, 1) := by decide +kernel
theorem dX9_wipe_1 : decode cX9_wipe 1 = .ok (.getfield 180, 3) := by decide +kernel
theorem dX9_wipe_4 : decode cX9_wipe 4 = .ok (.istore_n 1, 1) := by decide +kernel
theorem dX9_wipe_5 : decode cX9_wipe 5 = .ok (.aload_n 0, 1) := by decide +kernel
theorem dX9_wipe_6 : decode cX9_wipe 6 = .ok (.iconst 0, 1) := by decide +kernel
theorem dX9_wipe_7 : decode cX9_wipe 7 = .ok (.putfield 180, 3) := by decide +kernel
theorem dX9_wipe_10 : decode cX9_wipe 10 = .ok (.iload_n 1, 1) := by decide +kernel
theorem dX9_wipe_11 : decode cX9_wipe 11 = .ok (.ireturn, 1) := by decide +kernel
theorem dX9_next_0 : decode cX9_next 0 = .ok (.aload_n 0, 1) := by decide +kernel
theorem dX9_next_1 : decode cX9_next 1 = .ok (.getfield 200, 3) := by decide +kernel
theorem dX9_next_4 : decode cX9_next 4 = .ok (.aload_n 0, 1) := by decide +kernel
theorem dX9_next_5 : decode cX9_next 5 = .ok (.getfield 180, 3) := by decide +kernel
theorem dX9_next_8 : decode cX9_next 8 = .ok (.if_icmp .ge 15, 3) := by decide +kernel
theorem dX9_next_11 : decode cX9_next 11 = .ok (.aload_n 0, 1) := by decide +kernel
theorem dX9_next_12 : decode cX9_next 12 = .ok (.getfield 26, 3) := by decide +kernel
theorem dX9_next_15 : decode cX9_next 15 = .ok (.aload_n 0, 1) := by decide +kernel
theorem dX9_next_16 : decode cX9_next 16 = .ok (.getfield 200, 3) := by decide +kernel
theorem dX9_next_19 : decode cX9_next 19 = .ok (.iaload, 1) := by decide +kernel
theorem dX9_next_20 : decode cX9_next 20 = .ok (.goto 4, 3) := by decide +kernel
theorem dX9_next_23 : decode cX9_next 23 = .ok (.iconst 0, 1) := by decide +kernel
theorem dX9_next_24 : decode cX9_next 24 = .ok (.ireturn, 1) := by decide +kernel
theorem dX9_takeSign_0 : decode cX9_takeSign 0 = .ok (.aload_n 0, 1) := by decide +kernel
theorem dX9_takeSign_1 : decode cX9_takeSign 1 = .ok (.aload_n 0, 1) := by decide +kernel
theorem dX9_takeSign_2 : decode cX9_takeSign 2 = .ok (.getfield 203, 3) := by decide +kernel
theorem dX9_takeSign_5 : decode cX9_takeSign 5 = .ok (.ifCond .ne 11, 3) := by decide +kernel
theorem dX9_takeSign_8 : decode cX9_takeSign 8 = .ok (.aload_n 0, 1) := by decide +kernel
theorem dX9_takeSign_9 : decode cX9_takeSign 9 = .ok (.invokevirtual 207, 3) := by decide +kernel
theorem dX9_takeSign_12 : decode cX9_takeSign 12 = .ok (.iload_n 1, 1) := by decide +kernel
theorem dX9_takeSign_13 : decode cX9_takeSign 13 = .ok (.if_icmp .eq 7, 3) := by decide +kernel
theorem dX9_takeSign_16 : decode cX9_takeSign 16 = .ok (.iconst 1, 1) := by decide +kernel
theorem dX9_takeSign_17 : decode cX9_takeSign 17 = .ok (.goto 4, 3) := by decide +kernel
theorem dX9_takeSign_20 : decode cX9_takeSign 20 = .ok (.iconst 0, 1) := by decide +kernel
theorem dX9_takeSign_21 : decode cX9_takeSign 21 = .ok (.putfield 203, 3) := by decide +kernel
theorem dX9_takeSign_24 : decode cX9_takeSign 24 = .ok (.aload_n 0, 1) := by decide +kernel
theorem dX9_takeSign_25 : decode cX9_takeSign 25 = .ok (.dup, 1) := by decide +kernel
theorem dX9_takeSign_26 : decode cX9_takeSign 26 = .ok (.getfield 200, 3) := by decide +kernel
theorem dX9_takeSign_29 : decode cX9_takeSign 29 = .ok (.aload_n 0, 1) := by decide +kernel
theorem dX9_takeSign_30 : decode cX9_takeSign 30 = .ok (.getfield 203, 3) := by decide +kernel
theorem dX9_takeSign_33 : decode cX9_takeSign 33 = .ok (.ifCond .eq 7, 3) := by decide +kernel
theorem dX9_takeSign_36 : decode cX9_takeSign 36 = .ok (.iconst 0, 1) := by decide +kernel
theorem dX9_takeSign_37 : decode cX9_takeSign 37 = .ok (.goto 4, 3) := by decide +kernel
theorem dX9_takeSign_40 : decode cX9_takeSign 40 = .ok (.iconst 1, 1) := by decide +kernel
theorem dX9_takeSign_41 : decode cX9_takeSign 41 = .ok (.iadd, 1) := by decide +kernel
theorem dX9_takeSign_42 : decode cX9_takeSign 42 = .ok (.putfield 200, 3) := by decide +kernel
theorem dX9_takeSign_45 : decode cX9_takeSign 45 = .ok (.return_, 1) := by decide +kernel
theorem dX9_takeNumber_0 : decode cX9_takeNumber 0 = .ok (.aload_n 0, 1) := by decide +kernel
theorem dX9_takeNumber_1 : decode cX9_takeNumber 1 = .ok (.aload_n 0, 1) := by decide +kernel
theorem dX9_takeNumber_2 : decode cX9_takeNumber 2 = .ok (.getfield 203, 3) := by decide +kernel
theorem dX9_takeNumber_5 : decode cX9_takeNumber 5 = .ok (.ifCond .ne 17, 3) := by decide +kernel
theorem dX9_takeNumber_8 : decode cX9_takeNumber 8 = .ok (.aload_n 0, 1) := by decide +kernel
theorem dX9_takeNumber_9 : decode cX9_takeNumber 9 = .ok (.invokevirtual 207, 3) := by decide +kernel
theorem dX9_takeNumber_12 : decode cX9_takeNumber 12 = .ok (.bipush 48, 2) := by decide +kernel
theorem dX9_takeNumber_14 : decode cX9_takeNumber 14 = .ok (.bipush 57, 2) := by decide +kernel
theorem dX9_takeNumber_16 : decode cX9_takeNumber 16 = .ok (.invokestatic 35, 3) := by decide +kernel
theorem dX9_takeNumber_19 : decode cX9_takeNumber 19 = .ok (.ifCond .ne 7, 3) := by decide +kernel
theorem dX9_takeNumber_22 : decode cX9_takeNumber 22 = .ok (.iconst 1, 1) := by decide +kernel
theorem dX9_takeNumber_23 : decode cX9_takeNumber 23 = .ok (.goto 4, 3) := by decide +kernel
theorem dX9_takeNumber_26 : decode cX9_takeNumber 26 = .ok (.iconst 0, 1) := by decide +kernel
theorem dX9_takeNumber_27 : decode cX9_takeNumber 27 = .ok (.putfield 203, 3) := by decide +kernel
theorem dX9_takeNumber_30 : decode cX9_takeNumber 30 = .ok (.aload_n 0, 1) := by decide +kernel
theorem dX9_takeNumber_31 : decode cX9_takeNumber 31 = .ok (.getfield 203, 3) := by decide +kernel
theorem dX9_takeNumber_34 : decode cX9_takeNumber 34 = .ok (.ifCond .eq 4, 3) := by decide +kernel
theorem dX9_takeNumber_37 : decode cX9_takeNumber 37 = .ok (.return_, 1) := by decide +kernel
theorem dX9_takeNumber_38 : decode cX9_takeNumber 38 = .ok (.aload_n 0, 1) := by decide +kernel
theorem dX9_takeNumber_39 : decode cX9_takeNumber 39 = .ok (.invokevirtual 207, 3) := by decide +kernel
theorem dX9_takeNumber_42 : decode cX9_takeNumber 42 = .ok (.bipush 48, 2) := by decide +kernel
theorem dX9_takeNumber_44 : decode cX9_takeNumber 44 = .ok (.isub, 1) := by decide +kernel
theorem dX9_takeNumber_45 : decode cX9_takeNumber 45 = .ok (.istore_n 2, 1) := by decide +kernel
theorem dX9_takeNumber_46 : decode cX9_takeNumber 46 = .ok (.aload_n 0, 1) := by decide +kernel
theorem dX9_takeNumber_47 : decode cX9_takeNumber 47 = .ok (.dup, 1) := by decide +kernel
theorem dX9_takeNumber_48 : decode cX9_takeNumber 48 = .ok (.getfield 200, 3) := by decide +kernel
theorem dX9_takeNumber_51 : decode cX9_takeNumber 51 = .ok (.iconst 1, 1) := by decide +kernel
theorem dX9_takeNumber_52 : decode cX9_takeNumber 52 = .ok (.iadd, 1) := by decide +kernel
theorem dX9_takeNumber_53 : decode cX9_takeNumber 53 = .ok (.putfield 200, 3) := by decide +kernel
theorem dX9_takeNumber_56 : decode cX9_takeNumber 56 = .ok (.aload_n 0, 1) := by decide +kernel
theorem dX9_takeNumber_57 : decode cX9_takeNumber 57 = .ok (.getfield 203, 3) := by decide +kernel
theorem dX9_takeNumber_60 : decode cX9_takeNumber 60 = .ok (.ifCond .ne 96, 3) := by decide +kernel
theorem dX9_takeNumber_63 : decode cX9_takeNumber 63 = .ok (.iload_n 2, 1) := by decide +kernel
theorem dX9_takeNumber_64 : decode cX9_takeNumber 64 = .ok (.ifCond .le 92, 3) := by decide +kernel
theorem dX9_takeNumber_67 : decode cX9_takeNumber 67 = .ok (.aload_n 0, 1) := by decide +kernel
theorem dX9_takeNumber_68 : decode cX9_takeNumber 68 = .ok (.invokevirtual 207, 3) := by decide +kernel
theorem dX9_takeNumber_71 : decode cX9_takeNumber 71 = .ok (.bipush 48, 2) := by decide +kernel
theorem dX9_takeNumber_73 : decode cX9_takeNumber 73 = .ok (.bipush 57, 2) := by decide +kernel
theorem dX9_takeNumber_75 : decode cX9_takeNumber 75 = .ok (.invokestatic 35, 3) := by decide +kernel
theorem dX9_takeNumber_78 : decode cX9_takeNumber 78 = .ok (.ifCond .eq 78, 3) := by decide +kernel
theorem dX9_takeNumber_81 : decode cX9_takeNumber 81 = .ok (.aload_n 0, 1) := by decide +kernel
theorem dX9_takeNumber_82 : decode cX9_takeNumber 82 = .ok (.bipush 10, 2) := by decide +kernel
theorem dX9_takeNumber_84 : decode cX9_takeNumber 84 = .ok (.iload_n 2, 1) := by decide +kernel
theorem dX9_takeNumber_85 : decode cX9_takeNumber 85 = .ok (.imul, 1) := by decide +kernel
theorem dX9_takeNumber_86 : decode cX9_takeNumber 86 = .ok (.aload_n 0, 1) := by decide +kernel
theorem dX9_takeNumber_87 : decode cX9_takeNumber 87 = .ok (.invokevirtual 207, 3) := by decide +kernel
theorem dX9_takeNumber_90 : decode cX9_takeNumber 90 = .ok (.iadd, 1) := by decide +kernel
theorem dX9_takeNumber_91 : decode cX9_takeNumber 91 = .ok (.bipush 48, 2) := by decide +kernel
theorem dX9_takeNumber_93 : decode cX9_takeNumber 93 = .ok (.isub, 1) := by decide +kernel
theorem dX9_takeNumber_94 : decode cX9_takeNumber 94 = .ok (.sipush 9999, 3) := by decide +kernel
theorem dX9_takeNumber_97 : decode cX9_takeNumber 97 = .ok (.if_icmp .le 7, 3) := by decide +kernel
theorem dX9_takeNumber_100 : decode cX9_takeNumber 100 = .ok (.iconst 1, 1) := by decide +kernel
theorem dX9_takeNumber_101 : decode cX9_takeNumber 101 = .ok (.goto 4, 3) := by decide +kernel
theorem dX9_takeNumber_104 : decode cX9_takeNumber 104 = .ok (.iconst 0, 1) := by decide +kernel
theorem dX9_takeNumber_105 : decode cX9_takeNumber 105 = .ok (.putfield 203, 3) := by decide +kernel
theorem dX9_takeNumber_108 : decode cX9_takeNumber 108 = .ok (.aload_n 0, 1) := by decide +kernel
theorem dX9_takeNumber_109 : decode cX9_takeNumber 109 = .ok (.getfield 203, 3) := by decide +kernel
theorem dX9_takeNumber_112 : decode cX9_takeNumber 112 = .ok (.ifCond .eq 7, 3) := by decide +kernel
theorem dX9_takeNumber_115 : decode cX9_takeNumber 115 = .ok (.iload_n 2, 1) := by decide +kernel
theorem dX9_takeNumber_116 : decode cX9_takeNumber 116 = .ok (.goto 15, 3) := by decide +kernel
theorem dX9_takeNumber_119 : decode cX9_takeNumber 119 = .ok (.bipush 10, 2) := by decide +kernel
theorem dX9_takeNumber_121 : decode cX9_takeNumber 121 = .ok (.iload_n 2, 1) := by decide +kernel
theorem dX9_takeNumber_122 : decode cX9_takeNumber 122 = .ok (.imul, 1) := by decide +kernel
theorem dX9_takeNumber_123 : decode cX9_takeNumber 123 = .ok (.aload_n 0, 1) := by decide +kernel
theorem dX9_takeNumber_124 : decode cX9_takeNumber 124 = .ok (.invokevirtual 207, 3) := by decide +kernel
theorem dX9_takeNumber_127 : decode cX9_takeNumber 127 = .ok (.iadd, 1) := by decide +kernel
theorem dX9_takeNumber_128 : decode cX9_takeNumber 128 = .ok (.bipush 48, 2) := by decide +kernel
theorem dX9_takeNumber_130 : decode cX9_takeNumber 130 = .ok (.isub, 1) := by decide +kernel
theorem dX9_takeNumber_131 : decode cX9_takeNumber 131 = .ok (.istore_n 2, 1) := by decide +kernel
theorem dX9_takeNumber_132 : decode cX9_takeNumber 132 = .ok (.aload_n 0, 1) := by decide +kernel
theorem dX9_takeNumber_133 : decode cX9_takeNumber 133 = .ok (.dup, 1) := by decide +kernel
theorem dX9_takeNumber_134 : decode cX9_takeNumber 134 = .ok (.getfield 200, 3) := by decide +kernel
theorem dX9_takeNumber_137 : decode cX9_takeNumber 137 = .ok (.aload_n 0, 1) := by decide +kernel
theorem dX9_takeNumber_138 : decode cX9_takeNumber 138 = .ok (.getfield 203, 3) := by decide +kernel
theorem dX9_takeNumber_141 : decode cX9_takeNumber 141 = .ok (.ifCond .eq 7, 3) := by decide +kernel
theorem dX9_takeNumber_144 : decode cX9_takeNumber 144 = .ok (.iconst 0, 1) := by decide +kernel
theorem dX9_takeNumber_145 : decode cX9_takeNumber 145 = .ok (.goto 4, 3) := by decide +kernel
theorem dX9_takeNumber_148 : decode cX9_takeNumber 148 = .ok (.iconst 1, 1) := by decide +kernel
theorem dX9_takeNumber_149 : decode cX9_takeNumber 149 = .ok (.iadd, 1) := by decide +kernel
theorem dX9_takeNumber_150 : decode cX9_takeNumber 150 = .ok (.putfield 200, 3) := by decide +kernel
theorem dX9_takeNumber_153 : decode cX9_takeNumber 153 = .ok (.goto (-97), 3) := by decide +kernel
theorem dX9_takeNumber_156 : decode cX9_takeNumber 156 = .ok (.aload_n 0, 1) := by decide +kernel
theorem dX9_takeNumber_157 : decode cX9_takeNumber 157 = .ok (.getfield 32, 3) := by decide +kernel
theorem dX9_takeNumber_160 : decode cX9_takeNumber 160 = .ok (.iconst 3, 1) := by decide +kernel
theorem dX9_takeNumber_161 : decode cX9_takeNumber 161 = .ok (.aload_n 0, 1) := by decide +kernel
theorem dX9_takeNumber_162 : decode cX9_takeNumber 162 = .ok (.getfield 211, 3) := by decide +kernel
theorem dX9_takeNumber_165 : decode cX9_takeNumber 165 = .ok (.imul, 1) := by decide +kernel
theorem dX9_takeNumber_166 : decode cX9_takeNumber 166 = .ok (.iload_n 1, 1) := by decide +kernel
theorem dX9_takeNumber_167 : decode cX9_takeNumber 167 = .ok (.iadd, 1) := by decide +kernel
theorem dX9_takeNumber_168 : decode cX9_takeNumber 168 = .ok (.iload_n 2, 1) := by decide +kernel
theorem dX9_takeNumber_169 : decode cX9_takeNumber 169 = .ok (.iastore, 1) := by decide +kernel
theorem dX9_takeNumber_170 : decode cX9_takeNumber 170 = .ok (.return_, 1) := by decide +kernel
theorem dX9_takeOrder_0 : decode cX9_takeOrder 0 = .ok (.aload_n 0, 1) := by decide +kernel
theorem dX9_takeOrder_1 : decode cX9_takeOrder 1 = .ok (.invokevirtual 207, 3) := by decide +kernel
theorem dX9_takeOrder_4 : decode cX9_takeOrder 4 = .ok (.istore_n 1, 1) := by decide +kernel
theorem dX9_takeOrder_5 : decode cX9_takeOrder 5 = .ok (.aload_n 0, 1) := by decide +kernel
theorem dX9_takeOrder_6 : decode cX9_takeOrder 6 = .ok (.dup, 1) := by decide +kernel
theorem dX9_takeOrder_7 : decode cX9_takeOrder 7 = .ok (.getfield 200, 3) := by decide +kernel
theorem dX9_takeOrder_10 : decode cX9_takeOrder 10 = .ok (.iconst 1, 1) := by decide +kernel
theorem dX9_takeOrder_11 : decode cX9_takeOrder 11 = .ok (.iadd, 1) := by decide +kernel
theorem dX9_takeOrder_12 : decode cX9_takeOrder 12 = .ok (.putfield 200, 3) := by decide +kernel
theorem dX9_takeOrder_15 : decode cX9_takeOrder 15 = .ok (.iload_n 1, 1) := by decide +kernel
theorem dX9_takeOrder_16 : decode cX9_takeOrder 16 = .ok (.lookupswitch 88 #[(98, 44), (99, 80), (114, 44), (119, 44)], 44) := by decide +kernel
end
section
theorem dX9_takeOrder_60 : decode cX9_takeOrder 60 = .ok (.aload_n 0, 1) := by decide +kernel
theorem dX9_takeOrder_61 : decode cX9_takeOrder 61 = .ok (.iconst 0, 1) := by decide +kernel
theorem dX9_takeOrder_62 : decode cX9_takeOrder 62 = .ok (.invokevirtual 214, 3) := by decide +kernel
theorem dX9_takeOrder_65 : decode cX9_takeOrder 65 = .ok (.aload_n 0, 1) := by decide +kernel
theorem dX9_takeOrder_66 : decode cX9_takeOrder 66 = .ok (.bipush 58, 2) := by decide +kernel
theorem dX9_takeOrder_68 : decode cX9_takeOrder 68 = .ok (.invokevirtual 217, 3) := by decide +kernel
theorem dX9_takeOrder_71 : decode cX9_takeOrder 71 = .ok (.aload_n 0, 1) := by decide +kernel
theorem dX9_takeOrder_72 : decode cX9_takeOrder 72 = .ok (.iconst 1, 1) := by decide +kernel
theorem dX9_takeOrder_73 : decode cX9_takeOrder 73 = .ok (.invokevirtual 214, 3) := by decide +kernel
theorem dX9_takeOrder_76 : decode cX9_takeOrder 76 = .ok (.iload_n 1, 1) := by decide +kernel
theorem dX9_takeOrder_77 : decode cX9_takeOrder 77 = .ok (.bipush 119, 2) := by decide +kernel
theorem dX9_takeOrder_79 : decode cX9_takeOrder 79 = .ok (.if_icmp .ne 40, 3) := by decide +kernel
theorem dX9_takeOrder_82 : decode cX9_takeOrder 82 = .ok (.aload_n 0, 1) := by decide +kernel
theorem dX9_takeOrder_83 : decode cX9_takeOrder 83 = .ok (.bipush 61, 2) := by decide +kernel
theorem dX9_takeOrder_85 : decode cX9_takeOrder 85 = .ok (.invokevirtual 217, 3) := by decide +kernel
theorem dX9_takeOrder_88 : decode cX9_takeOrder 88 = .ok (.aload_n 0, 1) := by decide +kernel
theorem dX9_takeOrder_89 : decode cX9_takeOrder 89 = .ok (.iconst 2, 1) := by decide +kernel
theorem dX9_takeOrder_90 : decode cX9_takeOrder 90 = .ok (.invokevirtual 214, 3) := by decide +kernel
theorem dX9_takeOrder_93 : decode cX9_takeOrder 93 = .ok (.goto 26, 3) := by decide +kernel
theorem dX9_takeOrder_96 : decode cX9_takeOrder 96 = .ok (.aload_n 0, 1) := by decide +kernel
theorem dX9_takeOrder_97 : decode cX9_takeOrder 97 = .ok (.iconst 0, 1) := by decide +kernel
theorem dX9_takeOrder_98 : decode cX9_takeOrder 98 = .ok (.invokevirtual 214, 3) := by decide +kernel
theorem dX9_takeOrder_101 : decode cX9_takeOrder 101 = .ok (.goto 18, 3) := by decide +kernel
theorem dX9_takeOrder_104 : decode cX9_takeOrder 104 = .ok (.aload_n 0, 1) := by decide +kernel
theorem dX9_takeOrder_105 : decode cX9_takeOrder 105 = .ok (.dup, 1) := by decide +kernel
theorem dX9_takeOrder_106 : decode cX9_takeOrder 106 = .ok (.getfield 200, 3) := by decide +kernel
theorem dX9_takeOrder_109 : decode cX9_takeOrder 109 = .ok (.iconst 1, 1) := by decide +kernel
theorem dX9_takeOrder_110 : decode cX9_takeOrder 110 = .ok (.isub, 1) := by decide +kernel
theorem dX9_takeOrder_111 : decode cX9_takeOrder 111 = .ok (.putfield 200, 3) := by decide +kernel
theorem dX9_takeOrder_114 : decode cX9_takeOrder 114 = .ok (.aload_n 0, 1) := by decide +kernel
theorem dX9_takeOrder_115 : decode cX9_takeOrder 115 = .ok (.iconst 1, 1) := by decide +kernel
theorem dX9_takeOrder_116 : decode cX9_takeOrder 116 = .ok (.putfield 203, 3) := by decide +kernel
theorem dX9_takeOrder_119 : decode cX9_takeOrder 119 = .ok (.aload_n 0, 1) := by decide +kernel
theorem dX9_takeOrder_120 : decode cX9_takeOrder 120 = .ok (.getfield 203, 3) := by decide +kernel
theorem dX9_takeOrder_123 : decode cX9_takeOrder 123 = .ok (.ifCond .ne 23, 3) := by decide +kernel
theorem dX9_takeOrder_126 : decode cX9_takeOrder 126 = .ok (.aload_n 0, 1) := by decide +kernel
theorem dX9_takeOrder_127 : decode cX9_takeOrder 127 = .ok (.getfield 29, 3) := by decide +kernel
theorem dX9_takeOrder_130 : decode cX9_takeOrder 130 = .ok (.aload_n 0, 1) := by decide +kernel
theorem dX9_takeOrder_131 : decode cX9_takeOrder 131 = .ok (.getfield 211, 3) := by decide +kernel
theorem dX9_takeOrder_134 : decode cX9_takeOrder 134 = .ok (.iload_n 1, 1) := by decide +kernel
theorem dX9_takeOrder_135 : decode cX9_takeOrder 135 = .ok (.iastore, 1) := by decide +kernel
theorem dX9_takeOrder_136 : decode cX9_takeOrder 136 = .ok (.aload_n 0, 1) := by decide +kernel
theorem dX9_takeOrder_137 : decode cX9_takeOrder 137 = .ok (.dup, 1) := by decide +kernel
theorem dX9_takeOrder_138 : decode cX9_takeOrder 138 = .ok (.getfield 211, 3) := by decide +kernel
theorem dX9_takeOrder_141 : decode cX9_takeOrder 141 = .ok (.iconst 1, 1) := by decide +kernel
theorem dX9_takeOrder_142 : decode cX9_takeOrder 142 = .ok (.iadd, 1) := by decide +kernel
theorem dX9_takeOrder_143 : decode cX9_takeOrder 143 = .ok (.putfield 211, 3) := by decide +kernel
theorem dX9_takeOrder_146 : decode cX9_takeOrder 146 = .ok (.return_, 1) := by decide +kernel
theorem dX9_fault_0 : decode cX9_fault 0 = .ok (.aload_n 0, 1) := by decide +kernel
theorem dX9_fault_1 : decode cX9_fault 1 = .ok (.iconst 0, 1) := by decide +kernel
theorem dX9_fault_2 : decode cX9_fault 2 = .ok (.putfield 200, 3) := by decide +kernel
theorem dX9_fault_5 : decode cX9_fault 5 = .ok (.aload_n 0, 1) := by decide +kernel
theorem dX9_fault_6 : decode cX9_fault 6 = .ok (.iconst 0, 1) := by decide +kernel
theorem dX9_fault_7 : decode cX9_fault 7 = .ok (.putfield 203, 3) := by decide +kernel
theorem dX9_fault_10 : decode cX9_fault 10 = .ok (.aload_n 0, 1) := by decide +kernel
theorem dX9_fault_11 : decode cX9_fault 11 = .ok (.iconst 0, 1) := by decide +kernel
theorem dX9_fault_12 : decode cX9_fault 12 = .ok (.putfield 211, 3) := by decide +kernel
theorem dX9_fault_15 : decode cX9_fault 15 = .ok (.aload_n 0, 1) := by decide +kernel
theorem dX9_fault_16 : decode cX9_fault 16 = .ok (.invokevirtual 220, 3) := by decide +kernel
theorem dX9_fault_19 : decode cX9_fault 19 = .ok (.aload_n 0, 1) := by decide +kernel
theorem dX9_fault_20 : decode cX9_fault 20 = .ok (.getfield 203, 3) := by decide +kernel
theorem dX9_fault_23 : decode cX9_fault 23 = .ok (.ifCond .ne 34, 3) := by decide +kernel
theorem dX9_fault_26 : decode cX9_fault 26 = .ok (.aload_n 0, 1) := by decide +kernel
theorem dX9_fault_27 : decode cX9_fault 27 = .ok (.getfield 200, 3) := by decide +kernel
theorem dX9_fault_30 : decode cX9_fault 30 = .ok (.aload_n 0, 1) := by decide +kernel
theorem dX9_fault_31 : decode cX9_fault 31 = .ok (.getfield 180, 3) := by decide +kernel
theorem dX9_fault_34 : decode cX9_fault 34 = .ok (.if_icmp .ge 23, 3) := by decide +kernel
theorem dX9_fault_37 : decode cX9_fault 37 = .ok (.aload_n 0, 1) := by decide +kernel
theorem dX9_fault_38 : decode cX9_fault 38 = .ok (.bipush 59, 2) := by decide +kernel
theorem dX9_fault_40 : decode cX9_fault 40 = .ok (.invokevirtual 217, 3) := by decide +kernel
theorem dX9_fault_43 : decode cX9_fault 43 = .ok (.aload_n 0, 1) := by decide +kernel
theorem dX9_fault_44 : decode cX9_fault 44 = .ok (.getfield 203, 3) := by decide +kernel
theorem dX9_fault_47 : decode cX9_fault 47 = .ok (.ifCond .ne (-28), 3) := by decide +kernel
theorem dX9_fault_50 : decode cX9_fault 50 = .ok (.aload_n 0, 1) := by decide +kernel
theorem dX9_fault_51 : decode cX9_fault 51 = .ok (.invokevirtual 220, 3) := by decide +kernel
theorem dX9_fault_54 : decode cX9_fault 54 = .ok (.goto (-35), 3) := by decide +kernel
theorem dX9_fault_57 : decode cX9_fault 57 = .ok (.aload_n 0, 1) := by decide +kernel
theorem dX9_fault_58 : decode cX9_fault 58 = .ok (.getfield 203, 3) := by decide +kernel
theorem dX9_fault_61 : decode cX9_fault 61 = .ok (.ifCond .eq 10, 3) := by decide +kernel
theorem dX9_fault_64 : decode cX9_fault 64 = .ok (.aload_n 0, 1) := by decide +kernel
theorem dX9_fault_65 : decode cX9_fault 65 = .ok (.getfield 200, 3) := by decide +kernel
theorem dX9_fault_68 : decode cX9_fault 68 = .ok (.goto 5, 3) := by decide +kernel
theorem dX9_fault_71 : decode cX9_fault 71 = .ok (.bipush (-6), 2) := by decide +kernel
theorem dX9_fault_73 : decode cX9_fault 73 = .ok (.ireturn, 1) := by decide +kernel
theorem dX9_carry_0 : decode cX9_carry 0 = .ok (.iconst 3, 1) := by decide +kernel
theorem dX9_carry_1 : decode cX9_carry 1 = .ok (.iload_n 1, 1) := by decide +kernel
theorem dX9_carry_2 : decode cX9_carry 2 = .ok (.imul, 1) := by decide +kernel
theorem dX9_carry_3 : decode cX9_carry 3 = .ok (.istore_n 2, 1) := by decide +kernel
theorem dX9_carry_4 : decode cX9_carry 4 = .ok (.aload_n 0, 1) := by decide +kernel
theorem dX9_carry_5 : decode cX9_carry 5 = .ok (.getfield 29, 3) := by decide +kernel
theorem dX9_carry_8 : decode cX9_carry 8 = .ok (.iload_n 1, 1) := by decide +kernel
theorem dX9_carry_9 : decode cX9_carry 9 = .ok (.iaload, 1) := by decide +kernel
theorem dX9_carry_10 : decode cX9_carry 10 = .ok (.lookupswitch 102 #[(98, 82), (114, 34), (119, 54)], 34) := by decide +kernel
theorem dX9_carry_44 : decode cX9_carry 44 = .ok (.aload_n 0, 1) := by decide +kernel
theorem dX9_carry_45 : decode cX9_carry 45 = .ok (.aload_n 0, 1) := by decide +kernel
theorem dX9_carry_46 : decode cX9_carry 46 = .ok (.getfield 32, 3) := by decide +kernel
theorem dX9_carry_49 : decode cX9_carry 49 = .ok (.iload_n 2, 1) := by decide +kernel
theorem dX9_carry_50 : decode cX9_carry 50 = .ok (.iaload, 1) := by decide +kernel
theorem dX9_carry_51 : decode cX9_carry 51 = .ok (.aload_n 0, 1) := by decide +kernel
theorem dX9_carry_52 : decode cX9_carry 52 = .ok (.getfield 32, 3) := by decide +kernel
theorem dX9_carry_55 : decode cX9_carry 55 = .ok (.iload_n 2, 1) := by decide +kernel
theorem dX9_carry_56 : decode cX9_carry 56 = .ok (.iconst 1, 1) := by decide +kernel
theorem dX9_carry_57 : decode cX9_carry 57 = .ok (.iadd, 1) := by decide +kernel
theorem dX9_carry_58 : decode cX9_carry 58 = .ok (.iaload, 1) := by decide +kernel
theorem dX9_carry_59 : decode cX9_carry 59 = .ok (.iconst 0, 1) := by decide +kernel
theorem dX9_carry_60 : decode cX9_carry 60 = .ok (.invokevirtual 146, 3) := by decide +kernel
theorem dX9_carry_63 : decode cX9_carry 63 = .ok (.ireturn, 1) := by decide +kernel
theorem dX9_carry_64 : decode cX9_carry 64 = .ok (.aload_n 0, 1) := by decide +kernel
theorem dX9_carry_65 : decode cX9_carry 65 = .ok (.aload_n 0, 1) := by decide +kernel
theorem dX9_carry_66 : decode cX9_carry 66 = .ok (.getfield 32, 3) := by decide +kernel
theorem dX9_carry_69 : decode cX9_carry 69 = .ok (.iload_n 2, 1) := by decide +kernel
theorem dX9_carry_70 : decode cX9_carry 70 = .ok (.iaload, 1) := by decide +kernel
theorem dX9_carry_71 : decode cX9_carry 71 = .ok (.aload_n 0, 1) := by decide +kernel
theorem dX9_carry_72 : decode cX9_carry 72 = .ok (.getfield 32, 3) := by decide +kernel
theorem dX9_carry_75 : decode cX9_carry 75 = .ok (.iload_n 2, 1) := by decide +kernel
theorem dX9_carry_76 : decode cX9_carry 76 = .ok (.iconst 1, 1) := by decide +kernel
theorem dX9_carry_77 : decode cX9_carry 77 = .ok (.iadd, 1) := by decide +kernel
theorem dX9_carry_78 : decode cX9_carry 78 = .ok (.iaload, 1) := by decide +kernel
theorem dX9_carry_79 : decode cX9_carry 79 = .ok (.aload_n 0, 1) := by decide +kernel
theorem dX9_carry_80 : decode cX9_carry 80 = .ok (.getfield 32, 3) := by decide +kernel
theorem dX9_carry_83 : decode cX9_carry 83 = .ok (.iload_n 2, 1) := by decide +kernel
theorem dX9_carry_84 : decode cX9_carry 84 = .ok (.iconst 2, 1) := by decide +kernel
theorem dX9_carry_85 : decode cX9_carry 85 = .ok (.iadd, 1) := by decide +kernel
theorem dX9_carry_86 : decode cX9_carry 86 = .ok (.iaload, 1) := by decide +kernel
theorem dX9_carry_87 : decode cX9_carry 87 = .ok (.iconst 0, 1) := by decide +kernel
theorem dX9_carry_88 : decode cX9_carry 88 = .ok (.invokevirtual 153, 3) := by decide +kernel
theorem dX9_carry_91 : decode cX9_carry 91 = .ok (.ireturn, 1) := by decide +kernel
theorem dX9_carry_92 : decode cX9_carry 92 = .ok (.aload_n 0, 1) := by decide +kernel
theorem dX9_carry_93 : decode cX9_carry 93 = .ok (.aload_n 0, 1) := by decide +kernel
theorem dX9_carry_94 : decode cX9_carry 94 = .ok (.getfield 32, 3) := by decide +kernel
theorem dX9_carry_97 : decode cX9_carry 97 = .ok (.iload_n 2, 1) := by decide +kernel
theorem dX9_carry_98 : decode cX9_carry 98 = .ok (.iaload, 1) := by decide +kernel
theorem dX9_carry_99 : decode cX9_carry 99 = .ok (.aload_n 0, 1) := by decide +kernel
theorem dX9_carry_100 : decode cX9_carry 100 = .ok (.getfield 32, 3) := by decide +kernel
theorem dX9_carry_103 : decode cX9_carry 103 = .ok (.iload_n 2, 1) := by decide +kernel
theorem dX9_carry_104 : decode cX9_carry 104 = .ok (.iconst 1, 1) := by decide +kernel
theorem dX9_carry_105 : decode cX9_carry 105 = .ok (.iadd, 1) := by decide +kernel
theorem dX9_carry_106 : decode cX9_carry 106 = .ok (.iaload, 1) := by decide +kernel
theorem dX9_carry_107 : decode cX9_carry 107 = .ok (.iconst 0, 1) := by decide +kernel
theorem dX9_carry_108 : decode cX9_carry 108 = .ok (.invokevirtual 157, 3) := by decide +kernel
theorem dX9_carry_111 : decode cX9_carry 111 = .ok (.ireturn, 1) := by decide +kernel
theorem dX9_carry_112 : decode cX9_carry 112 = .ok (.aload_n 0, 1) := by decide +kernel
theorem dX9_carry_113 : decode cX9_carry 113 = .ok (.aload_n 0, 1) := by decide +kernel
theorem dX9_carry_114 : decode cX9_carry 114 = .ok (.getfield 32, 3) := by decide +kernel
theorem dX9_carry_117 : decode cX9_carry 117 = .ok (.iload_n 2, 1) := by decide +kernel
theorem dX9_carry_118 : decode cX9_carry 118 = .ok (.iaload, 1) := by decide +kernel
theorem dX9_carry_119 : decode cX9_carry 119 = .ok (.iconst 0, 1) := by decide +kernel
theorem dX9_carry_120 : decode cX9_carry 120 = .ok (.invokevirtual 160, 3) := by decide +kernel
theorem dX9_carry_123 : decode cX9_carry 123 = .ok (.ireturn, 1) := by decide +kernel
theorem dX9_carryOut_0 : decode cX9_carryOut 0 = .ok (.aload_n 0, 1) := by decide +kernel
theorem dX9_carryOut_1 : decode cX9_carryOut 1 = .ok (.invokevirtual 223, 3) := by decide +kernel
theorem dX9_carryOut_4 : decode cX9_carryOut 4 = .ok (.ifCond .lt 6, 3) := by decide +kernel
theorem dX9_carryOut_7 : decode cX9_carryOut 7 = .ok (.bipush (-3), 2) := by decide +kernel
theorem dX9_carryOut_9 : decode cX9_carryOut 9 = .ok (.ireturn, 1) := by decide +kernel
theorem dX9_carryOut_10 : decode cX9_carryOut 10 = .ok (.aload_n 0, 1) := by decide +kernel
theorem dX9_carryOut_11 : decode cX9_carryOut 11 = .ok (.invokevirtual 46, 3) := by decide +kernel
theorem dX9_carryOut_14 : decode cX9_carryOut 14 = .ok (.iconst 0, 1) := by decide +kernel
theorem dX9_carryOut_15 : decode cX9_carryOut 15 = .ok (.istore_n 1, 1) := by decide +kernel
theorem dX9_carryOut_16 : decode cX9_carryOut 16 = .ok (.iload_n 1, 1) := by decide +kernel
theorem dX9_carryOut_17 : decode cX9_carryOut 17 = .ok (.aload_n 0, 1) := by decide +kernel
theorem dX9_carryOut_18 : decode cX9_carryOut 18 = .ok (.getfield 211, 3) := by decide +kernel
theorem dX9_carryOut_21 : decode cX9_carryOut 21 = .ok (.if_icmp .ge 17, 3) := by decide +kernel
theorem dX9_carryOut_24 : decode cX9_carryOut 24 = .ok (.aload_n 0, 1) := by decide +kernel
theorem dX9_carryOut_25 : decode cX9_carryOut 25 = .ok (.iload_n 1, 1) := by decide +kernel
theorem dX9_carryOut_26 : decode cX9_carryOut 26 = .ok (.invokevirtual 226, 3) := by decide +kernel
theorem dX9_carryOut_29 : decode cX9_carryOut 29 = .ok (.ifCond .lt 9, 3) := by decide +kernel
theorem dX9_carryOut_32 : decode cX9_carryOut 32 = .ok (.iinc 1 1, 3) := by decide +kernel
theorem dX9_carryOut_35 : decode cX9_carryOut 35 = .ok (.goto (-19), 3) := by decide +kernel
theorem dX9_carryOut_38 : decode cX9_carryOut 38 = .ok (.aload_n 0, 1) := by decide +kernel
theorem dX9_carryOut_39 : decode cX9_carryOut 39 = .ok (.iconst 0, 1) := by decide +kernel
theorem dX9_carryOut_40 : decode cX9_carryOut 40 = .ok (.putfield 180, 3) := by decide +kernel
theorem dX9_carryOut_43 : decode cX9_carryOut 43 = .ok (.iload_n 1, 1) := by decide +kernel
theorem dX9_carryOut_44 : decode cX9_carryOut 44 = .ok (.ireturn, 1) := by decide +kernel
theorem dX9_undo_0 : decode cX9_undo 0 = .ok (.aload_n 0, 1) := by decide +kernel
theorem dX9_undo_1 : decode cX9_undo 1 = .ok (.getfield 39, 3) := by decide +kernel
theorem dX9_undo_4 : decode cX9_undo 4 = .ok (.ifCond .ne 6, 3) := by decide +kernel
theorem dX9_undo_7 : decode cX9_undo 7 = .ok (.bipush (-5), 2) := by decide +kernel
theorem dX9_undo_9 : decode cX9_undo 9 = .ok (.ireturn, 1) := by decide +kernel
theorem dX9_undo_10 : decode cX9_undo 10 = .ok (.aload_n 0, 1) := by decide +kernel
theorem dX9_undo_11 : decode cX9_undo 11 = .ok (.dup, 1) := by decide +kernel
theorem dX9_undo_12 : decode cX9_undo 12 = .ok (.getfield 39, 3) := by decide +kernel
theorem dX9_undo_15 : decode cX9_undo 15 = .ok (.iconst 1, 1) := by decide +kernel
theorem dX9_undo_16 : decode cX9_undo 16 = .ok (.isub, 1) := by decide +kernel
theorem dX9_undo_17 : decode cX9_undo 17 = .ok (.putfield 39, 3) := by decide +kernel
theorem dX9_undo_20 : decode cX9_undo 20 = .ok (.aload_n 0, 1) := by decide +kernel
theorem dX9_undo_21 : decode cX9_undo 21 = .ok (.getfield 43, 3) := by decide +kernel
theorem dX9_undo_24 : decode cX9_undo 24 = .ok (.aload_n 0, 1) := by decide +kernel
theorem dX9_undo_25 : decode cX9_undo 25 = .ok (.getfield 39, 3) := by decide +kernel
theorem dX9_undo_28 : decode cX9_undo 28 = .ok (.iadd, 1) := by decide +kernel
theorem dX9_undo_29 : decode cX9_undo 29 = .ok (.bipush 6, 2) := by decide +kernel
theorem dX9_undo_31 : decode cX9_undo 31 = .ok (.irem, 1) := by decide +kernel
theorem dX9_undo_32 : decode cX9_undo 32 = .ok (.istore_n 1, 1) := by decide +kernel
theorem dX9_undo_33 : decode cX9_undo 33 = .ok (.iconst 0, 1) := by decide +kernel
theorem dX9_undo_34 : decode cX9_undo 34 = .ok (.istore_n 2, 1) := by decide +kernel
theorem dX9_undo_35 : decode cX9_undo 35 = .ok (.iload_n 2, 1) := by decide +kernel
theorem dX9_undo_36 : decode cX9_undo 36 = .ok (.sipush 652, 3) := by decide +kernel
theorem dX9_undo_39 : decode cX9_undo 39 = .ok (.if_icmp .ge 27, 3) := by decide +kernel
theorem dX9_undo_42 : decode cX9_undo 42 = .ok (.aload_n 0, 1) := by decide +kernel
theorem dX9_undo_43 : decode cX9_undo 43 = .ok (.getfield 7, 3) := by decide +kernel
theorem dX9_undo_46 : decode cX9_undo 46 = .ok (.iload_n 2, 1) := by decide +kernel
theorem dX9_undo_47 : decode cX9_undo 47 = .ok (.aload_n 0, 1) := by decide +kernel
theorem dX9_undo_48 : decode cX9_undo 48 = .ok (.getfield 13, 3) := by decide +kernel
theorem dX9_undo_51 : decode cX9_undo 51 = .ok (.sipush 652, 3) := by decide +kernel
theorem dX9_undo_54 : decode cX9_undo 54 = .ok (.iload_n 1, 1) := by decide +kernel
theorem dX9_undo_55 : decode cX9_undo 55 = .ok (.imul, 1) := by decide +kernel
theorem dX9_undo_56 : decode cX9_undo 56 = .ok (.iload_n 2, 1) := by decide +kernel
theorem dX9_undo_57 : decode cX9_undo 57 = .ok (.iadd, 1) := by decide +kernel
theorem dX9_undo_58 : decode cX9_undo 58 = .ok (.iaload, 1) := by decide +kernel
theorem dX9_undo_59 : decode cX9_undo 59 = .ok (.iastore, 1) := by decide +kernel
theorem dX9_undo_60 : decode cX9_undo 60 = .ok (.iinc 2 1, 3) := by decide +kernel
theorem dX9_undo_63 : decode cX9_undo 63 = .ok (.goto (-28), 3) := by decide +kernel
theorem dX9_undo_66 : decode cX9_undo 66 = .ok (.aload_n 0, 1) := by decide +kernel
theorem dX9_undo_67 : decode cX9_undo 67 = .ok (.getfield 39, 3) := by decide +kernel
theorem dX9_undo_70 : decode cX9_undo 70 = .ok (.ireturn, 1) := by decide +kernel
theorem dX9_save_0 : decode cX9_save 0 = .ok (.iload_n 1, 1) := by decide +kernel
theorem dX9_save_1 : decode cX9_save 1 = .ok (.iconst 0, 1) := by decide +kernel
theorem dX9_save_2 : decode cX9_save 2 = .ok (.iconst 1, 1) := by decide +kernel
theorem dX9_save_3 : decode cX9_save 3 = .ok (.invokestatic 35, 3) := by decide +kernel
theorem dX9_save_6 : decode cX9_save 6 = .ok (.ifCond .ne 6, 3) := by decide +kernel
theorem dX9_save_9 : decode cX9_save 9 = .ok (.bipush (-2), 2) := by decide +kernel
theorem dX9_save_11 : decode cX9_save 11 = .ok (.ireturn, 1) := by decide +kernel
theorem dX9_save_12 : decode cX9_save 12 = .ok (.iconst 0, 1) := by decide +kernel
theorem dX9_save_13 : decode cX9_save 13 = .ok (.istore_n 2, 1) := by decide +kernel
theorem dX9_save_14 : decode cX9_save 14 = .ok (.iload_n 2, 1) := by decide +kernel
theorem dX9_save_15 : decode cX9_save 15 = .ok (.sipush 652, 3) := by decide +kernel
theorem dX9_save_18 : decode cX9_save 18 = .ok (.if_icmp .ge 27, 3) := by decide +kernel
theorem dX9_save_21 : decode cX9_save 21 = .ok (.aload_n 0, 1) := by decide +kernel
theorem dX9_save_22 : decode cX9_save 22 = .ok (.getfield 16, 3) := by decide +kernel
theorem dX9_save_25 : decode cX9_save 25 = .ok (.sipush 652, 3) := by decide +kernel
theorem dX9_save_28 : decode cX9_save 28 = .ok (.iload_n 1, 1) := by decide +kernel
theorem dX9_save_29 : decode cX9_save 29 = .ok (.imul, 1) := by decide +kernel
theorem dX9_save_30 : decode cX9_save 30 = .ok (.iload_n 2, 1) := by decide +kernel
theorem dX9_save_31 : decode cX9_save 31 = .ok (.iadd, 1) := by decide +kernel
theorem dX9_save_32 : decode cX9_save 32 = .ok (.aload_n 0, 1) := by decide +kernel
theorem dX9_save_33 : decode cX9_save 33 = .ok (.getfield 7, 3) := by decide +kernel
theorem dX9_save_36 : decode cX9_save 36 = .ok (.iload_n 2, 1) := by decide +kernel
theorem dX9_save_37 : decode cX9_save 37 = .ok (.iaload, 1) := by decide +kernel
theorem dX9_save_38 : decode cX9_save 38 = .ok (.iastore, 1) := by decide +kernel
theorem dX9_save_39 : decode cX9_save 39 = .ok (.iinc 2 1, 3) := by decide +kernel
theorem dX9_save_42 : decode cX9_save 42 = .ok (.goto (-28), 3) := by decide +kernel
theorem dX9_save_45 : decode cX9_save 45 = .ok (.aload_n 0, 1) := by decide +kernel
theorem dX9_save_46 : decode cX9_save 46 = .ok (.getfield 19, 3) := by decide +kernel
theorem dX9_save_49 : decode cX9_save 49 = .ok (.iload_n 1, 1) := by decide +kernel
theorem dX9_save_50 : decode cX9_save 50 = .ok (.iconst 1, 1) := by decide +kernel
theorem dX9_save_51 : decode cX9_save 51 = .ok (.bastore, 1) := by decide +kernel
theorem dX9_save_52 : decode cX9_save 52 = .ok (.aload_n 0, 1) := by decide +kernel
theorem dX9_save_53 : decode cX9_save 53 = .ok (.getfield 7, 3) := by decide +kernel
theorem dX9_save_56 : decode cX9_save 56 = .ok (.iconst 4, 1) := by decide +kernel
theorem dX9_save_57 : decode cX9_save 57 = .ok (.iaload, 1) := by decide +kernel
theorem dX9_save_58 : decode cX9_save 58 = .ok (.ireturn, 1) := by decide +kernel
theorem dX9_restore_0 : decode cX9_restore 0 = .ok (.iload_n 1, 1) := by decide +kernel
theorem dX9_restore_1 : decode cX9_restore 1 = .ok (.iconst 0, 1) := by decide +kernel
theorem dX9_restore_2 : decode cX9_restore 2 = .ok (.iconst 1, 1) := by decide +kernel
theorem dX9_restore_3 : decode cX9_restore 3 = .ok (.invokestatic 35, 3) := by decide +kernel
theorem dX9_restore_6 : decode cX9_restore 6 = .ok (.ifCond .ne 6, 3) := by decide +kernel
theorem dX9_restore_9 : decode cX9_restore 9 = .ok (.bipush (-2), 2) := by decide +kernel
theorem dX9_restore_11 : decode cX9_restore 11 = .ok (.ireturn, 1) := by decide +kernel
theorem dX9_restore_12 : decode cX9_restore 12 = .ok (.aload_n 0, 1) := by decide +kernel
theorem dX9_restore_13 : decode cX9_restore 13 = .ok (.getfield 19, 3) := by decide +kernel
theorem dX9_restore_16 : decode cX9_restore 16 = .ok (.iload_n 1, 1) := by decide +kernel
theorem dX9_restore_17 : decode cX9_restore 17 = .ok (.baload, 1) := by decide +kernel
theorem dX9_restore_18 : decode cX9_restore 18 = .ok (.ifCond .ne 6, 3) := by decide +kernel
theorem dX9_restore_21 : decode cX9_restore 21 = .ok (.bipush (-5), 2) := by decide +kernel
theorem dX9_restore_23 : decode cX9_restore 23 = .ok (.ireturn, 1) := by decide +kernel
theorem dX9_restore_24 : decode cX9_restore 24 = .ok (.aload_n 0, 1) := by decide +kernel
theorem dX9_restore_25 : decode cX9_restore 25 = .ok (.invokevirtual 46, 3) := by decide +kernel
theorem dX9_restore_28 : decode cX9_restore 28 = .ok (.iconst 0, 1) := by decide +kernel
theorem dX9_restore_29 : decode cX9_restore 29 = .ok (.istore_n 2, 1) := by decide +kernel
theorem dX9_restore_30 : decode cX9_restore 30 = .ok (.iload_n 2, 1) := by decide +kernel
theorem dX9_restore_31 : decode cX9_restore 31 = .ok (.sipush 652, 3) := by decide +kernel
theorem dX9_restore_34 : decode cX9_restore 34 = .ok (.if_icmp .ge 27, 3) := by decide +kernel
theorem dX9_restore_37 : decode cX9_restore 37 = .ok (.aload_n 0, 1) := by decide +kernel
theorem dX9_restore_38 : decode cX9_restore 38 = .ok (.getfield 7, 3) := by decide +kernel
theorem dX9_restore_41 : decode cX9_restore 41 = .ok (.iload_n 2, 1) := by decide +kernel
theorem dX9_restore_42 : decode cX9_restore 42 = .ok (.aload_n 0, 1) := by decide +kernel
theorem dX9_restore_43 : decode cX9_restore 43 = .ok (.getfield 16, 3) := by decide +kernel
theorem dX9_restore_46 : decode cX9_restore 46 = .ok (.sipush 652, 3) := by decide +kernel
theorem dX9_restore_49 : decode cX9_restore 49 = .ok (.iload_n 1, 1) := by decide +kernel
theorem dX9_restore_50 : decode cX9_restore 50 = .ok (.imul, 1) := by decide +kernel
theorem dX9_restore_51 : decode cX9_restore 51 = .ok (.iload_n 2, 1) := by decide +kernel
theorem dX9_restore_52 : decode cX9_restore 52 = .ok (.iadd, 1) := by decide +kernel
theorem dX9_restore_53 : decode cX9_restore 53 = .ok (.iaload, 1) := by decide +kernel
theorem dX9_restore_54 : decode cX9_restore 54 = .ok (.iastore, 1) := by decide +kernel
theorem dX9_restore_55 : decode cX9_restore 55 = .ok (.iinc 2 1, 3) := by decide +kernel
theorem dX9_restore_58 : decode cX9_restore 58 = .ok (.goto (-28), 3) := by decide +kernel
theorem dX9_restore_61 : decode cX9_restore 61 = .ok (.aload_n 0, 1) := by decide +kernel
theorem dX9_restore_62 : decode cX9_restore 62 = .ok (.getfield 7, 3) := by decide +kernel
theorem dX9_restore_65 : decode cX9_restore 65 = .ok (.iconst 4, 1) := by decide +kernel
theorem dX9_restore_66 : decode cX9_restore 66 = .ok (.iaload, 1) := by decide +kernel
theorem dX9_restore_67 : decode cX9_restore 67 = .ok (.ireturn, 1) := by decide +kernel
theorem dJ6_bitCount_0f7a4_0 : decode cJ6_bitCount_0f7a4 0 = .ok (.iload_n 0, 1) := by decide +kernel
theorem dJ6_bitCount_0f7a4_1 : decode cJ6_bitCount_0f7a4 1 = .ok (.iload_n 0, 1) := by decide +kernel
theorem dJ6_bitCount_0f7a4_2 : decode cJ6_bitCount_0f7a4 2 = .ok (.iconst 1, 1) := by decide +kernel
theorem dJ6_bitCount_0f7a4_3 : decode cJ6_bitCount_0f7a4 3 = .ok (.iushr, 1) := by decide +kernel
theorem dJ6_bitCount_0f7a4_4 : decode cJ6_bitCount_0f7a4 4 = .ok (.ldc_w 265, 3) := by decide +kernel
theorem dJ6_bitCount_0f7a4_7 : decode cJ6_bitCount_0f7a4 7 = .ok (.iand, 1) := by decide +kernel
theorem dJ6_bitCount_0f7a4_8 : decode cJ6_bitCount_0f7a4 8 = .ok (.isub, 1) := by decide +kernel
theorem dJ6_bitCount_0f7a4_9 : decode cJ6_bitCount_0f7a4 9 = .ok (.istore_n 0, 1) := by decide +kernel
theorem dJ6_bitCount_0f7a4_10 : decode cJ6_bitCount_0f7a4 10 = .ok (.iload_n 0, 1) := by decide +kernel
theorem dJ6_bitCount_0f7a4_11 : decode cJ6_bitCount_0f7a4 11 = .ok (.ldc_w 266, 3) := by decide +kernel
theorem dJ6_bitCount_0f7a4_14 : decode cJ6_bitCount_0f7a4 14 = .ok (.iand, 1) := by decide +kernel
theorem dJ6_bitCount_0f7a4_15 : decode cJ6_bitCount_0f7a4 15 = .ok (.iload_n 0, 1) := by decide +kernel
theorem dJ6_bitCount_0f7a4_16 : decode cJ6_bitCount_0f7a4 16 = .ok (.iconst 2, 1) := by decide +kernel
theorem dJ6_bitCount_0f7a4_17 : decode cJ6_bitCount_0f7a4 17 = .ok (.iushr, 1) := by decide +kernel
theorem dJ6_bitCount_0f7a4_18 : decode cJ6_bitCount_0f7a4 18 = .ok (.ldc_w 266, 3) := by decide +kernel
theorem dJ6_bitCount_0f7a4_21 : decode cJ6_bitCount_0f7a4 21 = .ok (.iand, 1) := by decide +kernel
theorem dJ6_bitCount_0f7a4_22 : decode cJ6_bitCount_0f7a4 22 = .ok (.iadd, 1) := by decide +kernel
theorem dJ6_bitCount_0f7a4_23 : decode cJ6_bitCount_0f7a4 23 = .ok (.istore_n 0, 1) := by decide +kernel
theorem dJ6_bitCount_0f7a4_24 : decode cJ6_bitCount_0f7a4 24 = .ok (.iload_n 0, 1) := by decide +kernel
theorem dJ6_bitCount_0f7a4_25 : decode cJ6_bitCount_0f7a4 25 = .ok (.iload_n 0, 1) := by decide +kernel
theorem dJ6_bitCount_0f7a4_26 : decode cJ6_bitCount_0f7a4 26 = .ok (.iconst 4, 1) := by decide +kernel
theorem dJ6_bitCount_0f7a4_27 : decode cJ6_bitCount_0f7a4 27 = .ok (.iushr, 1) := by decide +kernel
theorem dJ6_bitCount_0f7a4_28 : decode cJ6_bitCount_0f7a4 28 = .ok (.iadd, 1) := by decide +kernel
theorem dJ6_bitCount_0f7a4_29 : decode cJ6_bitCount_0f7a4 29 = .ok (.ldc_w 267, 3) := by decide +kernel
theorem dJ6_bitCount_0f7a4_32 : decode cJ6_bitCount_0f7a4 32 = .ok (.iand, 1) := by decide +kernel
theorem dJ6_bitCount_0f7a4_33 : decode cJ6_bitCount_0f7a4 33 = .ok (.istore_n 0, 1) := by decide +kernel
theorem dJ6_bitCount_0f7a4_34 : decode cJ6_bitCount_0f7a4 34 = .ok (.iload_n 0, 1) := by decide +kernel
theorem dJ6_bitCount_0f7a4_35 : decode cJ6_bitCount_0f7a4 35 = .ok (.iload_n 0, 1) := by decide +kernel
theorem dJ6_bitCount_0f7a4_36 : decode cJ6_bitCount_0f7a4 36 = .ok (.bipush 8, 2) := by decide +kernel
theorem dJ6_bitCount_0f7a4_38 : decode cJ6_bitCount_0f7a4 38 = .ok (.iushr, 1) := by decide +kernel
theorem dJ6_bitCount_0f7a4_39 : decode cJ6_bitCount_0f7a4 39 = .ok (.iadd, 1) := by decide +kernel
theorem dJ6_bitCount_0f7a4_40 : decode cJ6_bitCount_0f7a4 40 = .ok (.istore_n 0, 1) := by decide +kernel
theorem dJ6_bitCount_0f7a4_41 : decode cJ6_bitCount_0f7a4 41 = .ok (.iload_n 0, 1) := by decide +kernel
theorem dJ6_bitCount_0f7a4_42 : decode cJ6_bitCount_0f7a4 42 = .ok (.iload_n 0, 1) := by decide +kernel
theorem dJ6_bitCount_0f7a4_43 : decode cJ6_bitCount_0f7a4 43 = .ok (.bipush 16, 2) := by decide +kernel
theorem dJ6_bitCount_0f7a4_45 : decode cJ6_bitCount_0f7a4 45 = .ok (.iushr, 1) := by decide +kernel
theorem dJ6_bitCount_0f7a4_46 : decode cJ6_bitCount_0f7a4 46 = .ok (.iadd, 1) := by decide +kernel
theorem dJ6_bitCount_0f7a4_47 : decode cJ6_bitCount_0f7a4 47 = .ok (.istore_n 0, 1) := by decide +kernel
theorem dJ6_bitCount_0f7a4_48 : decode cJ6_bitCount_0f7a4 48 = .ok (.iload_n 0, 1) := by decide +kernel
theorem dJ6_bitCount_0f7a4_49 : decode cJ6_bitCount_0f7a4 49 = .ok (.bipush 63, 2) := by decide +kernel
theorem dJ6_bitCount_0f7a4_51 : decode cJ6_bitCount_0f7a4 51 = .ok (.iand, 1) := by decide +kernel
theorem dJ6_bitCount_0f7a4_52 : decode cJ6_bitCount_0f7a4 52 = .ok (.ireturn, 1) := by decide +kernel
theorem dJ9_max_7cf53_0 : decode cJ9_max_7cf53 0 = .ok (.iload_n 0, 1) := by decide +kernel
theorem dJ9_max_7cf53_1 : decode cJ9_max_7cf53 1 = .ok (.iload_n 1, 1) := by decide +kernel
theorem dJ9_max_7cf53_2 : decode cJ9_max_7cf53 2 = .ok (.if_icmp .lt 7, 3) := by decide +kernel
theorem dJ9_max_7cf53_5 : decode cJ9_max_7cf53 5 = .ok (.iload_n 0, 1) := by decide +kernel
theorem dJ9_max_7cf53_6 : decode cJ9_max_7cf53 6 = .ok (.goto 4, 3) := by decide +kernel
theorem dJ9_max_7cf53_9 : decode cJ9_max_7cf53 9 = .ok (.iload_n 1, 1) := by decide +kernel
theorem dJ9_max_7cf53_10 : decode cJ9_max_7cf53 10 = .ok (.ireturn, 1) := by decide +kernel
theorem dJ9_min_7cf53_0 : decode cJ9_min_7cf53 0 = .ok (.iload_n 0, 1) := by decide +kernel
theorem dJ9_min_7cf53_1 : decode cJ9_min_7cf53 1 = .ok (.iload_n 1, 1) := by decide +kernel
theorem dJ9_min_7cf53_2 : decode cJ9_min_7cf53 2 = .ok (.if_icmp .gt 7, 3) := by decide +kernel
theorem dJ9_min_7cf53_5 : decode cJ9_min_7cf53 5 = .ok (.iload_n 0, 1) := by decide +kernel
theorem dJ9_min_7cf53_6 : decode cJ9_min_7cf53 6 = .ok (.goto 4, 3) := by decide +kernel
theorem dJ9_min_7cf53_9 : decode cJ9_min_7cf53 9 = .ok (.iload_n 1, 1) := by decide +kernel
theorem dJ9_min_7cf53_10 : decode cJ9_min_7cf53 10 = .ok (.ireturn, 1) := by decide +kernel
theorem dJ7_fill_53178_0 : decode cJ7_fill_53178 0 = .ok (.iconst 0, 1) := by decide +kernel
theorem dJ7_fill_53178_1 : decode cJ7_fill_53178 1 = .ok (.istore_n 2, 1) := by decide +kernel
theorem dJ7_fill_53178_2 : decode cJ7_fill_53178 2 = .ok (.aload_n 0, 1) := by decide +kernel
theorem dJ7_fill_53178_3 : decode cJ7_fill_53178 3 = .ok (.arraylength, 1) := by decide +kernel
theorem dJ7_fill_53178_4 : decode cJ7_fill_53178 4 = .ok (.istore_n 3, 1) := by decide +kernel
theorem dJ7_fill_53178_5 : decode cJ7_fill_53178 5 = .ok (.iload_n 2, 1) := by decide +kernel
theorem dJ7_fill_53178_6 : decode cJ7_fill_53178 6 = .ok (.iload_n 3, 1) := by decide +kernel
theorem dJ7_fill_53178_7 : decode cJ7_fill_53178 7 = .ok (.if_icmp .ge 13, 3) := by decide +kernel
theorem dJ7_fill_53178_10 : decode cJ7_fill_53178 10 = .ok (.aload_n 0, 1) := by decide +kernel
theorem dJ7_fill_53178_11 : decode cJ7_fill_53178 11 = .ok (.iload_n 2, 1) := by decide +kernel
theorem dJ7_fill_53178_12 : decode cJ7_fill_53178 12 = .ok (.iload_n 1, 1) := by decide +kernel
theorem dJ7_fill_53178_13 : decode cJ7_fill_53178 13 = .ok (.iastore, 1) := by decide +kernel
theorem dJ7_fill_53178_14 : decode cJ7_fill_53178 14 = .ok (.iinc 2 1, 3) := by decide +kernel
theorem dJ7_fill_53178_17 : decode cJ7_fill_53178 17 = .ok (.goto (-12), 3) := by decide +kernel
theorem dJ7_fill_53178_20 : decode cJ7_fill_53178 20 = .ok (.return_, 1) := by decide +kernel
theorem dL_law_0 : decode cL_law 0 = .ok (.new 7, 3) := by decide +kernel
theorem dL_law_3 : decode cL_law 3 = .ok (.dup, 1) := by decide +kernel
theorem dL_law_4 : decode cL_law 4 = .ok (.invokespecial 9, 3) := by decide +kernel
theorem dL_law_7 : decode cL_law 7 = .ok (.astore_n 1, 1) := by decide +kernel
theorem dL_law_8 : decode cL_law 8 = .ok (.new 10, 3) := by decide +kernel
theorem dL_law_11 : decode cL_law 11 = .ok (.dup, 1) := by decide +kernel
theorem dL_law_12 : decode cL_law 12 = .ok (.invokespecial 12, 3) := by decide +kernel
theorem dL_law_15 : decode cL_law 15 = .ok (.astore_n 2, 1) := by decide +kernel
theorem dL_law_16 : decode cL_law 16 = .ok (.iconst 0, 1) := by decide +kernel
theorem dL_law_17 : decode cL_law 17 = .ok (.istore_n 3, 1) := by decide +kernel
theorem dL_law_18 : decode cL_law 18 = .ok (.iload_n 3, 1) := by decide +kernel
theorem dL_law_19 : decode cL_law 19 = .ok (.aload_n 0, 1) := by decide +kernel
theorem dL_law_20 : decode cL_law 20 = .ok (.arraylength, 1) := by decide +kernel
theorem dL_law_21 : decode cL_law 21 = .ok (.iconst 4, 1) := by decide +kernel
theorem dL_law_22 : decode cL_law 22 = .ok (.isub, 1) := by decide +kernel
theorem dL_law_23 : decode cL_law 23 = .ok (.if_icmp .gt 762, 3) := by decide +kernel
theorem dL_law_26 : decode cL_law 26 = .ok (.aload_n 0, 1) := by decide +kernel
theorem dL_law_27 : decode cL_law 27 = .ok (.iload_n 3, 1) := by decide +kernel
theorem dL_law_28 : decode cL_law 28 = .ok (.iaload, 1) := by decide +kernel
theorem dL_law_29 : decode cL_law 29 = .ok (.bipush 31, 2) := by decide +kernel
theorem dL_law_31 : decode cL_law 31 = .ok (.iand, 1) := by decide +kernel
theorem dL_law_32 : decode cL_law 32 = .ok (.tableswitch 747 0 22 #[108, 141, 174, 217, 250, 273, 306, 349, 382, 405, 438, 481, 504, 527, 560, 583, 596, 649, 662, 675, 688, 701, 724], 108) := by decide +kernel
theorem dL_law_140 : decode cL_law 140 = .ok (.aload_n 1, 1) := by decide +kernel
theorem dL_law_141 : decode cL_law 141 = .ok (.aload_n 0, 1) := by decide +kernel
theorem dL_law_142 : decode cL_law 142 = .ok (.iload_n 3, 1) := by decide +kernel
theorem dL_law_143 : decode cL_law 143 = .ok (.iconst 1, 1) := by decide +kernel
theorem dL_law_144 : decode cL_law 144 = .ok (.iadd, 1) := by decide +kernel
theorem dL_law_145 : decode cL_law 145 = .ok (.iaload, 1) := by decide +kernel
theorem dL_law_146 : decode cL_law 146 = .ok (.aload_n 0, 1) := by decide +kernel
theorem dL_law_147 : decode cL_law 147 = .ok (.iload_n 3, 1) := by decide +kernel
theorem dL_law_148 : decode cL_law 148 = .ok (.iconst 2, 1) := by decide +kernel
theorem dL_law_149 : decode cL_law 149 = .ok (.iadd, 1) := by decide +kernel
theorem dL_law_150 : decode cL_law 150 = .ok (.iaload, 1) := by decide +kernel
theorem dL_law_151 : decode cL_law 151 = .ok (.invokevirtual 13, 3) := by decide +kernel
theorem dL_law_154 : decode cL_law 154 = .ok (.aload_n 2, 1) := by decide +kernel
theorem dL_law_155 : decode cL_law 155 = .ok (.aload_n 0, 1) := by decide +kernel
theorem dL_law_156 : decode cL_law 156 = .ok (.iload_n 3, 1) := by decide +kernel
theorem dL_law_157 : decode cL_law 157 = .ok (.iconst 1, 1) := by decide +kernel
theorem dL_law_158 : decode cL_law 158 = .ok (.iadd, 1) := by decide +kernel
theorem dL_law_159 : decode cL_law 159 = .ok (.iaload, 1) := by decide +kernel
theorem dL_law_160 : decode cL_law 160 = .ok (.aload_n 0, 1) := by decide +kernel
theorem dL_law_161 : decode cL_law 161 = .ok (.iload_n 3, 1) := by decide +kernel
theorem dL_law_162 : decode cL_law 162 = .ok (.iconst 2, 1) := by decide +kernel
theorem dL_law_163 : decode cL_law 163 = .ok (.iadd, 1) := by decide +kernel
theorem dL_law_164 : decode cL_law 164 = .ok (.iaload, 1) := by decide +kernel
theorem dL_law_165 : decode cL_law 165 = .ok (.invokevirtual 17, 3) := by decide +kernel
theorem dL_law_168 : decode cL_law 168 = .ok (.if_icmp .eq 611, 3) := by decide +kernel
theorem dL_law_171 : decode cL_law 171 = .ok (.iconst 0, 1) := by decide +kernel
theorem dL_law_172 : decode cL_law 172 = .ok (.ireturn, 1) := by decide +kernel
theorem dL_law_173 : decode cL_law 173 = .ok (.aload_n 1, 1) := by decide +kernel
theorem dL_law_174 : decode cL_law 174 = .ok (.aload_n 0, 1) := by decide +kernel
theorem dL_law_175 : decode cL_law 175 = .ok (.iload_n 3, 1) := by decide +kernel
theorem dL_law_176 : decode cL_law 176 = .ok (.iconst 1, 1) := by decide +kernel
theorem dL_law_177 : decode cL_law 177 = .ok (.iadd, 1) := by decide +kernel
theorem dL_law_178 : decode cL_law 178 = .ok (.iaload, 1) := by decide +kernel
theorem dL_law_179 : decode cL_law 179 = .ok (.aload_n 0, 1) := by decide +kernel
theorem dL_law_180 : decode cL_law 180 = .ok (.iload_n 3, 1) := by decide +kernel
theorem dL_law_181 : decode cL_law 181 = .ok (.iconst 2, 1) := by decide +kernel
theorem dL_law_182 : decode cL_law 182 = .ok (.iadd, 1) := by decide +kernel
theorem dL_law_183 : decode cL_law 183 = .ok (.iaload, 1) := by decide +kernel
theorem dL_law_184 : decode cL_law 184 = .ok (.invokevirtual 18, 3) := by decide +kernel
theorem dL_law_187 : decode cL_law 187 = .ok (.aload_n 2, 1) := by decide +kernel
theorem dL_law_188 : decode cL_law 188 = .ok (.aload_n 0, 1) := by decide +kernel
theorem dL_law_189 : decode cL_law 189 = .ok (.iload_n 3, 1) := by decide +kernel
theorem dL_law_190 : decode cL_law 190 = .ok (.iconst 1, 1) := by decide +kernel
theorem dL_law_191 : decode cL_law 191 = .ok (.iadd, 1) := by decide +kernel
theorem dL_law_192 : decode cL_law 192 = .ok (.iaload, 1) := by decide +kernel
theorem dL_law_193 : decode cL_law 193 = .ok (.aload_n 0, 1) := by decide +kernel
theorem dL_law_194 : decode cL_law 194 = .ok (.iload_n 3, 1) := by decide +kernel
theorem dL_law_195 : decode cL_law 195 = .ok (.iconst 2, 1) := by decide +kernel
theorem dL_law_196 : decode cL_law 196 = .ok (.iadd, 1) := by decide +kernel
theorem dL_law_197 : decode cL_law 197 = .ok (.iaload, 1) := by decide +kernel
theorem dL_law_198 : decode cL_law 198 = .ok (.invokevirtual 21, 3) := by decide +kernel
theorem dL_law_201 : decode cL_law 201 = .ok (.if_icmp .eq 578, 3) := by decide +kernel
theorem dL_law_204 : decode cL_law 204 = .ok (.iconst 0, 1) := by decide +kernel
theorem dL_law_205 : decode cL_law 205 = .ok (.ireturn, 1) := by decide +kernel
theorem dL_law_206 : decode cL_law 206 = .ok (.aload_n 1, 1) := by decide +kernel
theorem dL_law_207 : decode cL_law 207 = .ok (.aload_n 0, 1) := by decide +kernel
theorem dL_law_208 : decode cL_law 208 = .ok (.iload_n 3, 1) := by decide +kernel
theorem dL_law_209 : decode cL_law 209 = .ok (.iconst 1, 1) := by decide +kernel
theorem dL_law_210 : decode cL_law 210 = .ok (.iadd, 1) := by decide +kernel
theorem dL_law_211 : decode cL_law 211 = .ok (.iaload, 1) := by decide +kernel
theorem dL_law_212 : decode cL_law 212 = .ok (.aload_n 0, 1) := by decide +kernel
theorem dL_law_213 : decode cL_law 213 = .ok (.iload_n 3, 1) := by decide +kernel
theorem dL_law_214 : decode cL_law 214 = .ok (.iconst 2, 1) := by decide +kernel
theorem dL_law_215 : decode cL_law 215 = .ok (.iadd, 1) := by decide +kernel
theorem dL_law_216 : decode cL_law 216 = .ok (.iaload, 1) := by decide +kernel
theorem dL_law_217 : decode cL_law 217 = .ok (.aload_n 0, 1) := by decide +kernel
theorem dL_law_218 : decode cL_law 218 = .ok (.iload_n 3, 1) := by decide +kernel
theorem dL_law_219 : decode cL_law 219 = .ok (.iconst 3, 1) := by decide +kernel
theorem dL_law_220 : decode cL_law 220 = .ok (.iadd, 1) := by decide +kernel
theorem dL_law_221 : decode cL_law 221 = .ok (.iaload, 1) := by decide +kernel
theorem dL_law_222 : decode cL_law 222 = .ok (.invokevirtual 22, 3) := by decide +kernel
theorem dL_law_225 : decode cL_law 225 = .ok (.aload_n 2, 1) := by decide +kernel
theorem dL_law_226 : decode cL_law 226 = .ok (.aload_n 0, 1) := by decide +kernel
theorem dL_law_227 : decode cL_law 227 = .ok (.iload_n 3, 1) := by decide +kernel
theorem dL_law_228 : decode cL_law 228 = .ok (.iconst 1, 1) := by decide +kernel
theorem dL_law_229 : decode cL_law 229 = .ok (.iadd, 1) := by decide +kernel
theorem dL_law_230 : decode cL_law 230 = .ok (.iaload, 1) := by decide +kernel
theorem dL_law_231 : decode cL_law 231 = .ok (.aload_n 0, 1) := by decide +kernel
theorem dL_law_232 : decode cL_law 232 = .ok (.iload_n 3, 1) := by decide +kernel
theorem dL_law_233 : decode cL_law 233 = .ok (.iconst 2, 1) := by decide +kernel
theorem dL_law_234 : decode cL_law 234 = .ok (.iadd, 1) := by decide +kernel
theorem dL_law_235 : decode cL_law 235 = .ok (.iaload, 1) := by decide +kernel
theorem dL_law_236 : decode cL_law 236 = .ok (.aload_n 0, 1) := by decide +kernel
theorem dL_law_237 : decode cL_law 237 = .ok (.iload_n 3, 1) := by decide +kernel
theorem dL_law_238 : decode cL_law 238 = .ok (.iconst 3, 1) := by decide +kernel
theorem dL_law_239 : decode cL_law 239 = .ok (.iadd, 1) := by decide +kernel
theorem dL_law_240 : decode cL_law 240 = .ok (.iaload, 1) := by decide +kernel
theorem dL_law_241 : decode cL_law 241 = .ok (.invokevirtual 26, 3) := by decide +kernel
theorem dL_law_244 : decode cL_law 244 = .ok (.if_icmp .eq 535, 3) := by decide +kernel
theorem dL_law_247 : decode cL_law 247 = .ok (.iconst 0, 1) := by decide +kernel
theorem dL_law_248 : decode cL_law 248 = .ok (.ireturn, 1) := by decide +kernel
theorem dL_law_249 : decode cL_law 249 = .ok (.aload_n 1, 1) := by decide +kernel
theorem dL_law_250 : decode cL_law 250 = .ok (.aload_n 0, 1) := by decide +kernel
theorem dL_law_251 : decode cL_law 251 = .ok (.iload_n 3, 1) := by decide +kernel
theorem dL_law_252 : decode cL_law 252 = .ok (.iconst 1, 1) := by decide +kernel
theorem dL_law_253 : decode cL_law 253 = .ok (.iadd, 1) := by decide +kernel
theorem dL_law_254 : decode cL_law 254 = .ok (.iaload, 1) := by decide +kernel
theorem dL_law_255 : decode cL_law 255 = .ok (.aload_n 0, 1) := by decide +kernel
theorem dL_law_256 : decode cL_law 256 = .ok (.iload_n 3, 1) := by decide +kernel
theorem dL_law_257 : decode cL_law 257 = .ok (.iconst 2, 1) := by decide +kernel
theorem dL_law_258 : decode cL_law 258 = .ok (.iadd, 1) := by decide +kernel
theorem dL_law_259 : decode cL_law 259 = .ok (.iaload, 1) := by decide +kernel
theorem dL_law_260 : decode cL_law 260 = .ok (.invokevirtual 27, 3) := by decide +kernel
theorem dL_law_263 : decode cL_law 263 = .ok (.aload_n 2, 1) := by decide +kernel
theorem dL_law_264 : decode cL_law 264 = .ok (.aload_n 0, 1) := by decide +kernel
theorem dL_law_265 : decode cL_law 265 = .ok (.iload_n 3, 1) := by decide +kernel
theorem dL_law_266 : decode cL_law 266 = .ok (.iconst 1, 1) := by decide +kernel
theorem dL_law_267 : decode cL_law 267 = .ok (.iadd, 1) := by decide +kernel
theorem dL_law_268 : decode cL_law 268 = .ok (.iaload, 1) := by decide +kernel
theorem dL_law_269 : decode cL_law 269 = .ok (.aload_n 0, 1) := by decide +kernel
theorem dL_law_270 : decode cL_law 270 = .ok (.iload_n 3, 1) := by decide +kernel
theorem dL_law_271 : decode cL_law 271 = .ok (.iconst 2, 1) := by decide +kernel
theorem dL_law_272 : decode cL_law 272 = .ok (.iadd, 1) := by decide +kernel
theorem dL_law_273 : decode cL_law 273 = .ok (.iaload, 1) := by decide +kernel
theorem dL_law_274 : decode cL_law 274 = .ok (.invokevirtual 30, 3) := by decide +kernel
theorem dL_law_277 : decode cL_law 277 = .ok (.if_icmp .eq 502, 3) := by decide +kernel
theorem dL_law_280 : decode cL_law 280 = .ok (.iconst 0, 1) := by decide +kernel
theorem dL_law_281 : decode cL_law 281 = .ok (.ireturn, 1) := by decide +kernel
theorem dL_law_282 : decode cL_law 282 = .ok (.aload_n 1, 1) := by decide +kernel
theorem dL_law_283 : decode cL_law 283 = .ok (.aload_n 0, 1) := by decide +kernel
theorem dL_law_284 : decode cL_law 284 = .ok (.iload_n 3, 1) := by decide +kernel
theorem dL_law_285 : decode cL_law 285 = .ok (.iconst 1, 1) := by decide +kernel
theorem dL_law_286 : decode cL_law 286 = .ok (.iadd, 1) := by decide +kernel
theorem dL_law_287 : decode cL_law 287 = .ok (.iaload, 1) := by decide +kernel
theorem dL_law_288 : decode cL_law 288 = .ok (.invokevirtual 31, 3) := by decide +kernel
theorem dL_law_291 : decode cL_law 291 = .ok (.aload_n 2, 1) := by decide +kernel
theorem dL_law_292 : decode cL_law 292 = .ok (.aload_n 0, 1) := by decide +kernel
theorem dL_law_293 : decode cL_law 293 = .ok (.iload_n 3, 1) := by decide +kernel
theorem dL_law_294 : decode cL_law 294 = .ok (.iconst 1, 1) := by decide +kernel
theorem dL_law_295 : decode cL_law 295 = .ok (.iadd, 1) := by decide +kernel
theorem dL_law_296 : decode cL_law 296 = .ok (.iaload, 1) := by decide +kernel
theorem dL_law_297 : decode cL_law 297 = .ok (.invokevirtual 35, 3) := by decide +kernel
theorem dL_law_300 : decode cL_law 300 = .ok (.if_icmp .eq 479, 3) := by decide +kernel
theorem dL_law_303 : decode cL_law 303 = .ok (.iconst 0, 1) := by decide +kernel
theorem dL_law_304 : decode cL_law 304 = .ok (.ireturn, 1) := by decide +kernel
theorem dL_law_305 : decode cL_law 305 = .ok (.aload_n 1, 1) := by decide +kernel
theorem dL_law_306 : decode cL_law 306 = .ok (.aload_n 0, 1) := by decide +kernel
theorem dL_law_307 : decode cL_law 307 = .ok (.iload_n 3, 1) := by decide +kernel
theorem dL_law_308 : decode cL_law 308 = .ok (.iconst 1, 1) := by decide +kernel
theorem dL_law_309 : decode cL_law 309 = .ok (.iadd, 1) := by decide +kernel
theorem dL_law_310 : decode cL_law 310 = .ok (.iaload, 1) := by decide +kernel
theorem dL_law_311 : decode cL_law 311 = .ok (.aload_n 0, 1) := by decide +kernel
theorem dL_law_312 : decode cL_law 312 = .ok (.iload_n 3, 1) := by decide +kernel
theorem dL_law_313 : decode cL_law 313 = .ok (.iconst 2, 1) := by decide +kernel
theorem dL_law_314 : decode cL_law 314 = .ok (.iadd, 1) := by decide +kernel
theorem dL_law_315 : decode cL_law 315 = .ok (.iaload, 1) := by decide +kernel
theorem dL_law_316 : decode cL_law 316 = .ok (.invokevirtual 36, 3) := by decide +kernel
theorem dL_law_319 : decode cL_law 319 = .ok (.aload_n 2, 1) := by decide +kernel
theorem dL_law_320 : decode cL_law 320 = .ok (.aload_n 0, 1) := by decide +kernel
theorem dL_law_321 : decode cL_law 321 = .ok (.iload_n 3, 1) := by decide +kernel
theorem dL_law_322 : decode cL_law 322 = .ok (.iconst 1, 1) := by decide +kernel
theorem dL_law_323 : decode cL_law 323 = .ok (.iadd, 1) := by decide +kernel
theorem dL_law_324 : decode cL_law 324 = .ok (.iaload, 1) := by decide +kernel
theorem dL_law_325 : decode cL_law 325 = .ok (.aload_n 0, 1) := by decide +kernel
theorem dL_law_326 : decode cL_law 326 = .ok (.iload_n 3, 1) := by decide +kernel
theorem dL_law_327 : decode cL_law 327 = .ok (.iconst 2, 1) := by decide +kernel
theorem dL_law_328 : decode cL_law 328 = .ok (.iadd, 1) := by decide +kernel
theorem dL_law_329 : decode cL_law 329 = .ok (.iaload, 1) := by decide +kernel
theorem dL_law_330 : decode cL_law 330 = .ok (.invokevirtual 39, 3) := by decide +kernel
theorem dL_law_333 : decode cL_law 333 = .ok (.if_icmp .eq 446, 3) := by decide +kernel
theorem dL_law_336 : decode cL_law 336 = .ok (.iconst 0, 1) := by decide +kernel
theorem dL_law_337 : decode cL_law 337 = .ok (.ireturn, 1) := by decide +kernel
theorem dL_law_338 : decode cL_law 338 = .ok (.aload_n 1, 1) := by decide +kernel
theorem dL_law_339 : decode cL_law 339 = .ok (.aload_n 0, 1) := by decide +kernel
theorem dL_law_340 : decode cL_law 340 = .ok (.iload_n 3, 1) := by decide +kernel
theorem dL_law_341 : decode cL_law 341 = .ok (.iconst 1, 1) := by decide +kernel
theorem dL_law_342 : decode cL_law 342 = .ok (.iadd, 1) := by decide +kernel
theorem dL_law_343 : decode cL_law 343 = .ok (.iaload, 1) := by decide +kernel
theorem dL_law_344 : decode cL_law 344 = .ok (.aload_n 0, 1) := by decide +kernel
theorem dL_law_345 : decode cL_law 345 = .ok (.iload_n 3, 1) := by decide +kernel
theorem dL_law_346 : decode cL_law 346 = .ok (.iconst 2, 1) := by decide +kernel
theorem dL_law_347 : decode cL_law 347 = .ok (.iadd, 1) := by decide +kernel
theorem dL_law_348 : decode cL_law 348 = .ok (.iaload, 1) := by decide +kernel
theorem dL_law_349 : decode cL_law 349 = .ok (.aload_n 0, 1) := by decide +kernel
theorem dL_law_350 : decode cL_law 350 = .ok (.iload_n 3, 1) := by decide +kernel
theorem dL_law_351 : decode cL_law 351 = .ok (.iconst 3, 1) := by decide +kernel
theorem dL_law_352 : decode cL_law 352 = .ok (.iadd, 1) := by decide +kernel
theorem dL_law_353 : decode cL_law 353 = .ok (.iaload, 1) := by decide +kernel
theorem dL_law_354 : decode cL_law 354 = .ok (.invokevirtual 40, 3) := by decide +kernel
theorem dL_law_357 : decode cL_law 357 = .ok (.aload_n 2, 1) := by decide +kernel
theorem dL_law_358 : decode cL_law 358 = .ok (.aload_n 0, 1) := by decide +kernel
theorem dL_law_359 : decode cL_law 359 = .ok (.iload_n 3, 1) := by decide +kernel
theorem dL_law_360 : decode cL_law 360 = .ok (.iconst 1, 1) := by decide +kernel
theorem dL_law_361 : decode cL_law 361 = .ok (.iadd, 1) := by decide +kernel
theorem dL_law_362 : decode cL_law 362 = .ok (.iaload, 1) := by decide +kernel
theorem dL_law_363 : decode cL_law 363 = .ok (.aload_n 0, 1) := by decide +kernel
theorem dL_law_364 : decode cL_law 364 = .ok (.iload_n 3, 1) := by decide +kernel
theorem dL_law_365 : decode cL_law 365 = .ok (.iconst 2, 1) := by decide +kernel
theorem dL_law_366 : decode cL_law 366 = .ok (.iadd, 1) := by decide +kernel
theorem dL_law_367 : decode cL_law 367 = .ok (.iaload, 1) := by decide +kernel
theorem dL_law_368 : decode cL_law 368 = .ok (.aload_n 0, 1) := by decide +kernel
theorem dL_law_369 : decode cL_law 369 = .ok (.iload_n 3, 1) := by decide +kernel
theorem dL_law_370 : decode cL_law 370 = .ok (.iconst 3, 1) := by decide +kernel
theorem dL_law_371 : decode cL_law 371 = .ok (.iadd, 1) := by decide +kernel
theorem dL_law_372 : decode cL_law 372 = .ok (.iaload, 1) := by decide +kernel
theorem dL_law_373 : decode cL_law 373 = .ok (.invokevirtual 43, 3) := by decide +kernel
theorem dL_law_376 : decode cL_law 376 = .ok (.if_icmp .eq 403, 3) := by decide +kernel
theorem dL_law_379 : decode cL_law 379 = .ok (.iconst 0, 1) := by decide +kernel
theorem dL_law_380 : decode cL_law 380 = .ok (.ireturn, 1) := by decide +kernel
theorem dL_law_381 : decode cL_law 381 = .ok (.aload_n 1, 1) := by decide +kernel
theorem dL_law_382 : decode cL_law 382 = .ok (.aload_n 0, 1) := by decide +kernel
theorem dL_law_383 : decode cL_law 383 = .ok (.iload_n 3, 1) := by decide +kernel
theorem dL_law_384 : decode cL_law 384 = .ok (.iconst 1, 1) := by decide +kernel
theorem dL_law_385 : decode cL_law 385 = .ok (.iadd, 1) := by decide +kernel
theorem dL_law_386 : decode cL_law 386 = .ok (.iaload, 1) := by decide +kernel
theorem dL_law_387 : decode cL_law 387 = .ok (.aload_n 0, 1) := by decide +kernel
theorem dL_law_388 : decode cL_law 388 = .ok (.iload_n 3, 1) := by decide +kernel
theorem dL_law_389 : decode cL_law 389 = .ok (.iconst 2, 1) := by decide +kernel
theorem dL_law_390 : decode cL_law 390 = .ok (.iadd, 1) := by decide +kernel
theorem dL_law_391 : decode cL_law 391 = .ok (.iaload, 1) := by decide +kernel
theorem dL_law_392 : decode cL_law 392 = .ok (.invokevirtual 44, 3) := by decide +kernel
theorem dL_law_395 : decode cL_law 395 = .ok (.aload_n 2, 1) := by decide +kernel
theorem dL_law_396 : decode cL_law 396 = .ok (.aload_n 0, 1) := by decide +kernel
theorem dL_law_397 : decode cL_law 397 = .ok (.iload_n 3, 1) := by decide +kernel
theorem dL_law_398 : decode cL_law 398 = .ok (.iconst 1, 1) := by decide +kernel
theorem dL_law_399 : decode cL_law 399 = .ok (.iadd, 1) := by decide +kernel
theorem dL_law_400 : decode cL_law 400 = .ok (.iaload, 1) := by decide +kernel
theorem dL_law_401 : decode cL_law 401 = .ok (.aload_n 0, 1) := by decide +kernel
theorem dL_law_402 : decode cL_law 402 = .ok (.iload_n 3, 1) := by decide +kernel
theorem dL_law_403 : decode cL_law 403 = .ok (.iconst 2, 1) := by decide +kernel
theorem dL_law_404 : decode cL_law 404 = .ok (.iadd, 1) := by decide +kernel
theorem dL_law_405 : decode cL_law 405 = .ok (.iaload, 1) := by decide +kernel
theorem dL_law_406 : decode cL_law 406 = .ok (.invokevirtual 47, 3) := by decide +kernel
theorem dL_law_409 : decode cL_law 409 = .ok (.if_icmp .eq 370, 3) := by decide +kernel
theorem dL_law_412 : decode cL_law 412 = .ok (.iconst 0, 1) := by decide +kernel
theorem dL_law_413 : decode cL_law 413 = .ok (.ireturn, 1) := by decide +kernel
theorem dL_law_414 : decode cL_law 414 = .ok (.aload_n 1, 1) := by decide +kernel
theorem dL_law_415 : decode cL_law 415 = .ok (.aload_n 0, 1) := by decide +kernel
theorem dL_law_416 : decode cL_law 416 = .ok (.iload_n 3, 1) := by decide +kernel
theorem dL_law_417 : decode cL_law 417 = .ok (.iconst 1, 1) := by decide +kernel
theorem dL_law_418 : decode cL_law 418 = .ok (.iadd, 1) := by decide +kernel
theorem dL_law_419 : decode cL_law 419 = .ok (.iaload, 1) := by decide +kernel
theorem dL_law_420 : decode cL_law 420 = .ok (.invokevirtual 48, 3) := by decide +kernel
theorem dL_law_423 : decode cL_law 423 = .ok (.aload_n 2, 1) := by decide +kernel
theorem dL_law_424 : decode cL_law 424 = .ok (.aload_n 0, 1) := by decide +kernel
theorem dL_law_425 : decode cL_law 425 = .ok (.iload_n 3, 1) := by decide +kernel
theorem dL_law_426 : decode cL_law 426 = .ok (.iconst 1, 1) := by decide +kernel
theorem dL_law_427 : decode cL_law 427 = .ok (.iadd, 1) := by decide +kernel
theorem dL_law_428 : decode cL_law 428 = .ok (.iaload, 1) := by decide +kernel
theorem dL_law_429 : decode cL_law 429 = .ok (.invokevirtual 51, 3) := by decide +kernel
theorem dL_law_432 : decode cL_law 432 = .ok (.if_icmp .eq 347, 3) := by decide +kernel
theorem dL_law_435 : decode cL_law 435 = .ok (.iconst 0, 1) := by decide +kernel
theorem dL_law_436 : decode cL_law 436 = .ok (.ireturn, 1) := by decide +kernel
theorem dL_law_437 : decode cL_law 437 = .ok (.aload_n 1, 1) := by decide +kernel
theorem dL_law_438 : decode cL_law 438 = .ok (.aload_n 0, 1) := by decide +kernel
theorem dL_law_439 : decode cL_law 439 = .ok (.iload_n 3, 1) := by decide +kernel
theorem dL_law_440 : decode cL_law 440 = .ok (.iconst 1, 1) := by decide +kernel
theorem dL_law_441 : decode cL_law 441 = .ok (.iadd, 1) := by decide +kernel
theorem dL_law_442 : decode cL_law 442 = .ok (.iaload, 1) := by decide +kernel
theorem dL_law_443 : decode cL_law 443 = .ok (.aload_n 0, 1) := by decide +kernel
theorem dL_law_444 : decode cL_law 444 = .ok (.iload_n 3, 1) := by decide +kernel
theorem dL_law_445 : decode cL_law 445 = .ok (.iconst 2, 1) := by decide +kernel
theorem dL_law_446 : decode cL_law 446 = .ok (.iadd, 1) := by decide +kernel
theorem dL_law_447 : decode cL_law 447 = .ok (.iaload, 1) := by decide +kernel
theorem dL_law_448 : decode cL_law 448 = .ok (.invokevirtual 52, 3) := by decide +kernel
theorem dL_law_451 : decode cL_law 451 = .ok (.aload_n 2, 1) := by decide +kernel
theorem dL_law_452 : decode cL_law 452 = .ok (.aload_n 0, 1) := by decide +kernel
theorem dL_law_453 : decode cL_law 453 = .ok (.iload_n 3, 1) := by decide +kernel
theorem dL_law_454 : decode cL_law 454 = .ok (.iconst 1, 1) := by decide +kernel
theorem dL_law_455 : decode cL_law 455 = .ok (.iadd, 1) := by decide +kernel
theorem dL_law_456 : decode cL_law 456 = .ok (.iaload, 1) := by decide +kernel
theorem dL_law_457 : decode cL_law 457 = .ok (.aload_n 0, 1) := by decide +kernel
theorem dL_law_458 : decode cL_law 458 = .ok (.iload_n 3, 1) := by decide +kernel
theorem dL_law_459 : decode cL_law 459 = .ok (.iconst 2, 1) := by decide +kernel
theorem dL_law_460 : decode cL_law 460 = .ok (.iadd, 1) := by decide +kernel
theorem dL_law_461 : decode cL_law 461 = .ok (.iaload, 1) := by decide +kernel
theorem dL_law_462 : decode cL_law 462 = .ok (.invokevirtual 55, 3) := by decide +kernel
theorem dL_law_465 : decode cL_law 465 = .ok (.if_icmp .eq 314, 3) := by decide +kernel
theorem dL_law_468 : decode cL_law 468 = .ok (.iconst 0, 1) := by decide +kernel
theorem dL_law_469 : decode cL_law 469 = .ok (.ireturn, 1) := by decide +kernel
theorem dL_law_470 : decode cL_law 470 = .ok (.aload_n 1, 1) := by decide +kernel
theorem dL_law_471 : decode cL_law 471 = .ok (.aload_n 0, 1) := by decide +kernel
theorem dL_law_472 : decode cL_law 472 = .ok (.iload_n 3, 1) := by decide +kernel
theorem dL_law_473 : decode cL_law 473 = .ok (.iconst 1, 1) := by decide +kernel
theorem dL_law_474 : decode cL_law 474 = .ok (.iadd, 1) := by decide +kernel
theorem dL_law_475 : decode cL_law 475 = .ok (.iaload, 1) := by decide +kernel
theorem dL_law_476 : decode cL_law 476 = .ok (.aload_n 0, 1) := by decide +kernel
theorem dL_law_477 : decode cL_law 477 = .ok (.iload_n 3, 1) := by decide +kernel
theorem dL_law_478 : decode cL_law 478 = .ok (.iconst 2, 1) := by decide +kernel
theorem dL_law_479 : decode cL_law 479 = .ok (.iadd, 1) := by decide +kernel
theorem dL_law_480 : decode cL_law 480 = .ok (.iaload, 1) := by decide +kernel
theorem dL_law_481 : decode cL_law 481 = .ok (.aload_n 0, 1) := by decide +kernel
theorem dL_law_482 : decode cL_law 482 = .ok (.iload_n 3, 1) := by decide +kernel
theorem dL_law_483 : decode cL_law 483 = .ok (.iconst 3, 1) := by decide +kernel
theorem dL_law_484 : decode cL_law 484 = .ok (.iadd, 1) := by decide +kernel
theorem dL_law_485 : decode cL_law 485 = .ok (.iaload, 1) := by decide +kernel
theorem dL_law_486 : decode cL_law 486 = .ok (.invokevirtual 56, 3) := by decide +kernel
theorem dL_law_489 : decode cL_law 489 = .ok (.aload_n 2, 1) := by decide +kernel
theorem dL_law_490 : decode cL_law 490 = .ok (.aload_n 0, 1) := by decide +kernel
theorem dL_law_491 : decode cL_law 491 = .ok (.iload_n 3, 1) := by decide +kernel
theorem dL_law_492 : decode cL_law 492 = .ok (.iconst 1, 1) := by decide +kernel
theorem dL_law_493 : decode cL_law 493 = .ok (.iadd, 1) := by decide +kernel
theorem dL_law_494 : decode cL_law 494 = .ok (.iaload, 1) := by decide +kernel
theorem dL_law_495 : decode cL_law 495 = .ok (.aload_n 0, 1) := by decide +kernel
theorem dL_law_496 : decode cL_law 496 = .ok (.iload_n 3, 1) := by decide +kernel
theorem dL_law_497 : decode cL_law 497 = .ok (.iconst 2, 1) := by decide +kernel
theorem dL_law_498 : decode cL_law 498 = .ok (.iadd, 1) := by decide +kernel
theorem dL_law_499 : decode cL_law 499 = .ok (.iaload, 1) := by decide +kernel
theorem dL_law_500 : decode cL_law 500 = .ok (.aload_n 0, 1) := by decide +kernel
theorem dL_law_501 : decode cL_law 501 = .ok (.iload_n 3, 1) := by decide +kernel
theorem dL_law_502 : decode cL_law 502 = .ok (.iconst 3, 1) := by decide +kernel
theorem dL_law_503 : decode cL_law 503 = .ok (.iadd, 1) := by decide +kernel
theorem dL_law_504 : decode cL_law 504 = .ok (.iaload, 1) := by decide +kernel
theorem dL_law_505 : decode cL_law 505 = .ok (.invokevirtual 59, 3) := by decide +kernel
theorem dL_law_508 : decode cL_law 508 = .ok (.if_icmp .eq 271, 3) := by decide +kernel
theorem dL_law_511 : decode cL_law 511 = .ok (.iconst 0, 1) := by decide +kernel
theorem dL_law_512 : decode cL_law 512 = .ok (.ireturn, 1) := by decide +kernel
theorem dL_law_513 : decode cL_law 513 = .ok (.aload_n 1, 1) := by decide +kernel
theorem dL_law_514 : decode cL_law 514 = .ok (.aload_n 0, 1) := by decide +kernel
theorem dL_law_515 : decode cL_law 515 = .ok (.iload_n 3, 1) := by decide +kernel
theorem dL_law_516 : decode cL_law 516 = .ok (.iconst 1, 1) := by decide +kernel
theorem dL_law_517 : decode cL_law 517 = .ok (.iadd, 1) := by decide +kernel
theorem dL_law_518 : decode cL_law 518 = .ok (.iaload, 1) := by decide +kernel
theorem dL_law_519 : decode cL_law 519 = .ok (.invokevirtual 60, 3) := by decide +kernel
theorem dL_law_522 : decode cL_law 522 = .ok (.aload_n 2, 1) := by decide +kernel
theorem dL_law_523 : decode cL_law 523 = .ok (.aload_n 0, 1) := by decide +kernel
theorem dL_law_524 : decode cL_law 524 = .ok (.iload_n 3, 1) := by decide +kernel
theorem dL_law_525 : decode cL_law 525 = .ok (.iconst 1, 1) := by decide +kernel
theorem dL_law_526 : decode cL_law 526 = .ok (.iadd, 1) := by decide +kernel
theorem dL_law_527 : decode cL_law 527 = .ok (.iaload, 1) := by decide +kernel
theorem dL_law_528 : decode cL_law 528 = .ok (.invokevirtual 63, 3) := by decide +kernel
theorem dL_law_531 : decode cL_law 531 = .ok (.if_icmp .eq 248, 3) := by decide +kernel
theorem dL_law_534 : decode cL_law 534 = .ok (.iconst 0, 1) := by decide +kernel
theorem dL_law_535 : decode cL_law 535 = .ok (.ireturn, 1) := by decide +kernel
theorem dL_law_536 : decode cL_law 536 = .ok (.aload_n 1, 1) := by decide +kernel
theorem dL_law_537 : decode cL_law 537 = .ok (.aload_n 0, 1) := by decide +kernel
theorem dL_law_538 : decode cL_law 538 = .ok (.iload_n 3, 1) := by decide +kernel
theorem dL_law_539 : decode cL_law 539 = .ok (.iconst 1, 1) := by decide +kernel
theorem dL_law_540 : decode cL_law 540 = .ok (.iadd, 1) := by decide +kernel
theorem dL_law_541 : decode cL_law 541 = .ok (.iaload, 1) := by decide +kernel
theorem dL_law_542 : decode cL_law 542 = .ok (.invokevirtual 64, 3) := by decide +kernel
theorem dL_law_545 : decode cL_law 545 = .ok (.aload_n 2, 1) := by decide +kernel
theorem dL_law_546 : decode cL_law 546 = .ok (.aload_n 0, 1) := by decide +kernel
theorem dL_law_547 : decode cL_law 547 = .ok (.iload_n 3, 1) := by decide +kernel
theorem dL_law_548 : decode cL_law 548 = .ok (.iconst 1, 1) := by decide +kernel
theorem dL_law_549 : decode cL_law 549 = .ok (.iadd, 1) := by decide +kernel
theorem dL_law_550 : decode cL_law 550 = .ok (.iaload, 1) := by decide +kernel
theorem dL_law_551 : decode cL_law 551 = .ok (.invokevirtual 67, 3) := by decide +kernel
theorem dL_law_554 : decode cL_law 554 = .ok (.if_icmp .eq 225, 3) := by decide +kernel
theorem dL_law_557 : decode cL_law 557 = .ok (.iconst 0, 1) := by decide +kernel
theorem dL_law_558 : decode cL_law 558 = .ok (.ireturn, 1) := by decide +kernel
theorem dL_law_559 : decode cL_law 559 = .ok (.aload_n 1, 1) := by decide +kernel
theorem dL_law_560 : decode cL_law 560 = .ok (.aload_n 0, 1) := by decide +kernel
theorem dL_law_561 : decode cL_law 561 = .ok (.iload_n 3, 1) := by decide +kernel
theorem dL_law_562 : decode cL_law 562 = .ok (.iconst 1, 1) := by decide +kernel
theorem dL_law_563 : decode cL_law 563 = .ok (.iadd, 1) := by decide +kernel
theorem dL_law_564 : decode cL_law 564 = .ok (.iaload, 1) := by decide +kernel
theorem dL_law_565 : decode cL_law 565 = .ok (.aload_n 0, 1) := by decide +kernel
theorem dL_law_566 : decode cL_law 566 = .ok (.iload_n 3, 1) := by decide +kernel
theorem dL_law_567 : decode cL_law 567 = .ok (.iconst 2, 1) := by decide +kernel
theorem dL_law_568 : decode cL_law 568 = .ok (.iadd, 1) := by decide +kernel
theorem dL_law_569 : decode cL_law 569 = .ok (.iaload, 1) := by decide +kernel
theorem dL_law_570 : decode cL_law 570 = .ok (.invokevirtual 68, 3) := by decide +kernel
theorem dL_law_573 : decode cL_law 573 = .ok (.aload_n 2, 1) := by decide +kernel
theorem dL_law_574 : decode cL_law 574 = .ok (.aload_n 0, 1) := by decide +kernel
theorem dL_law_575 : decode cL_law 575 = .ok (.iload_n 3, 1) := by decide +kernel
theorem dL_law_576 : decode cL_law 576 = .ok (.iconst 1, 1) := by decide +kernel
theorem dL_law_577 : decode cL_law 577 = .ok (.iadd, 1) := by decide +kernel
theorem dL_law_578 : decode cL_law 578 = .ok (.iaload, 1) := by decide +kernel
theorem dL_law_579 : decode cL_law 579 = .ok (.aload_n 0, 1) := by decide +kernel
theorem dL_law_580 : decode cL_law 580 = .ok (.iload_n 3, 1) := by decide +kernel
theorem dL_law_581 : decode cL_law 581 = .ok (.iconst 2, 1) := by decide +kernel
theorem dL_law_582 : decode cL_law 582 = .ok (.iadd, 1) := by decide +kernel
theorem dL_law_583 : decode cL_law 583 = .ok (.iaload, 1) := by decide +kernel
theorem dL_law_584 : decode cL_law 584 = .ok (.invokevirtual 71, 3) := by decide +kernel
theorem dL_law_587 : decode cL_law 587 = .ok (.if_icmp .eq 192, 3) := by decide +kernel
theorem dL_law_590 : decode cL_law 590 = .ok (.iconst 0, 1) := by decide +kernel
theorem dL_law_591 : decode cL_law 591 = .ok (.ireturn, 1) := by decide +kernel
theorem dL_law_592 : decode cL_law 592 = .ok (.aload_n 1, 1) := by decide +kernel
theorem dL_law_593 : decode cL_law 593 = .ok (.aload_n 0, 1) := by decide +kernel
theorem dL_law_594 : decode cL_law 594 = .ok (.iload_n 3, 1) := by decide +kernel
theorem dL_law_595 : decode cL_law 595 = .ok (.iconst 1, 1) := by decide +kernel
theorem dL_law_596 : decode cL_law 596 = .ok (.iadd, 1) := by decide +kernel
theorem dL_law_597 : decode cL_law 597 = .ok (.iaload, 1) := by decide +kernel
theorem dL_law_598 : decode cL_law 598 = .ok (.invokevirtual 72, 3) := by decide +kernel
theorem dL_law_601 : decode cL_law 601 = .ok (.aload_n 2, 1) := by decide +kernel
theorem dL_law_602 : decode cL_law 602 = .ok (.aload_n 0, 1) := by decide +kernel
theorem dL_law_603 : decode cL_law 603 = .ok (.iload_n 3, 1) := by decide +kernel
theorem dL_law_604 : decode cL_law 604 = .ok (.iconst 1, 1) := by decide +kernel
theorem dL_law_605 : decode cL_law 605 = .ok (.iadd, 1) := by decide +kernel
theorem dL_law_606 : decode cL_law 606 = .ok (.iaload, 1) := by decide +kernel
theorem dL_law_607 : decode cL_law 607 = .ok (.invokevirtual 75, 3) := by decide +kernel
theorem dL_law_610 : decode cL_law 610 = .ok (.if_icmp .eq 169, 3) := by decide +kernel
theorem dL_law_613 : decode cL_law 613 = .ok (.iconst 0, 1) := by decide +kernel
theorem dL_law_614 : decode cL_law 614 = .ok (.ireturn, 1) := by decide +kernel
theorem dL_law_615 : decode cL_law 615 = .ok (.aload_n 1, 1) := by decide +kernel
theorem dL_law_616 : decode cL_law 616 = .ok (.invokevirtual 76, 3) := by decide +kernel
theorem dL_law_619 : decode cL_law 619 = .ok (.aload_n 2, 1) := by decide +kernel
theorem dL_law_620 : decode cL_law 620 = .ok (.invokevirtual 80, 3) := by decide +kernel
theorem dL_law_623 : decode cL_law 623 = .ok (.if_icmp .eq 156, 3) := by decide +kernel
theorem dL_law_626 : decode cL_law 626 = .ok (.iconst 0, 1) := by decide +kernel
theorem dL_law_627 : decode cL_law 627 = .ok (.ireturn, 1) := by decide +kernel
theorem dL_law_628 : decode cL_law 628 = .ok (.aload_n 1, 1) := by decide +kernel
theorem dL_law_629 : decode cL_law 629 = .ok (.aload_n 0, 1) := by decide +kernel
theorem dL_law_630 : decode cL_law 630 = .ok (.iload_n 3, 1) := by decide +kernel
theorem dL_law_631 : decode cL_law 631 = .ok (.iconst 1, 1) := by decide +kernel
theorem dL_law_632 : decode cL_law 632 = .ok (.iadd, 1) := by decide +kernel
theorem dL_law_633 : decode cL_law 633 = .ok (.iaload, 1) := by decide +kernel
theorem dL_law_634 : decode cL_law 634 = .ok (.i2l, 1) := by decide +kernel
theorem dL_law_635 : decode cL_law 635 = .ok (.bipush 32, 2) := by decide +kernel
theorem dL_law_637 : decode cL_law 637 = .ok (.lshl, 1) := by decide +kernel
theorem dL_law_638 : decode cL_law 638 = .ok (.aload_n 0, 1) := by decide +kernel
theorem dL_law_639 : decode cL_law 639 = .ok (.iload_n 3, 1) := by decide +kernel
theorem dL_law_640 : decode cL_law 640 = .ok (.iconst 2, 1) := by decide +kernel
theorem dL_law_641 : decode cL_law 641 = .ok (.iadd, 1) := by decide +kernel
theorem dL_law_642 : decode cL_law 642 = .ok (.iaload, 1) := by decide +kernel
theorem dL_law_643 : decode cL_law 643 = .ok (.i2l, 1) := by decide +kernel
theorem dL_law_644 : decode cL_law 644 = .ok (.ldc2_w 81, 3) := by decide +kernel
theorem dL_law_647 : decode cL_law 647 = .ok (.land, 1) := by decide +kernel
theorem dL_law_648 : decode cL_law 648 = .ok (.lor, 1) := by decide +kernel
theorem dL_law_649 : decode cL_law 649 = .ok (.invokevirtual 83, 3) := by decide +kernel
theorem dL_law_652 : decode cL_law 652 = .ok (.aload_n 2, 1) := by decide +kernel
theorem dL_law_653 : decode cL_law 653 = .ok (.aload_n 0, 1) := by decide +kernel
theorem dL_law_654 : decode cL_law 654 = .ok (.iload_n 3, 1) := by decide +kernel
theorem dL_law_655 : decode cL_law 655 = .ok (.iconst 1, 1) := by decide +kernel
theorem dL_law_656 : decode cL_law 656 = .ok (.iadd, 1) := by decide +kernel
theorem dL_law_657 : decode cL_law 657 = .ok (.iaload, 1) := by decide +kernel
theorem dL_law_658 : decode cL_law 658 = .ok (.i2l, 1) := by decide +kernel
theorem dL_law_659 : decode cL_law 659 = .ok (.bipush 32, 2) := by decide +kernel
theorem dL_law_661 : decode cL_law 661 = .ok (.lshl, 1) := by decide +kernel
theorem dL_law_662 : decode cL_law 662 = .ok (.aload_n 0, 1) := by decide +kernel
theorem dL_law_663 : decode cL_law 663 = .ok (.iload_n 3, 1) := by decide +kernel
theorem dL_law_664 : decode cL_law 664 = .ok (.iconst 2, 1) := by decide +kernel
theorem dL_law_665 : decode cL_law 665 = .ok (.iadd, 1) := by decide +kernel
theorem dL_law_666 : decode cL_law 666 = .ok (.iaload, 1) := by decide +kernel
theorem dL_law_667 : decode cL_law 667 = .ok (.i2l, 1) := by decide +kernel
theorem dL_law_668 : decode cL_law 668 = .ok (.ldc2_w 81, 3) := by decide +kernel
theorem dL_law_671 : decode cL_law 671 = .ok (.land, 1) := by decide +kernel
theorem dL_law_672 : decode cL_law 672 = .ok (.lor, 1) := by decide +kernel
theorem dL_law_673 : decode cL_law 673 = .ok (.invokevirtual 87, 3) := by decide +kernel
theorem dL_law_676 : decode cL_law 676 = .ok (.if_icmp .eq 103, 3) := by decide +kernel
theorem dL_law_679 : decode cL_law 679 = .ok (.iconst 0, 1) := by decide +kernel
theorem dL_law_680 : decode cL_law 680 = .ok (.ireturn, 1) := by decide +kernel
theorem dL_law_681 : decode cL_law 681 = .ok (.aload_n 1, 1) := by decide +kernel
theorem dL_law_682 : decode cL_law 682 = .ok (.invokevirtual 88, 3) := by decide +kernel
theorem dL_law_685 : decode cL_law 685 = .ok (.aload_n 2, 1) := by decide +kernel
theorem dL_law_686 : decode cL_law 686 = .ok (.invokevirtual 91, 3) := by decide +kernel
theorem dL_law_689 : decode cL_law 689 = .ok (.if_icmp .eq 90, 3) := by decide +kernel
theorem dL_law_692 : decode cL_law 692 = .ok (.iconst 0, 1) := by decide +kernel
theorem dL_law_693 : decode cL_law 693 = .ok (.ireturn, 1) := by decide +kernel
theorem dL_law_694 : decode cL_law 694 = .ok (.aload_n 1, 1) := by decide +kernel
theorem dL_law_695 : decode cL_law 695 = .ok (.invokevirtual 92, 3) := by decide +kernel
theorem dL_law_698 : decode cL_law 698 = .ok (.aload_n 2, 1) := by decide +kernel
theorem dL_law_699 : decode cL_law 699 = .ok (.invokevirtual 95, 3) := by decide +kernel
theorem dL_law_702 : decode cL_law 702 = .ok (.if_icmp .eq 77, 3) := by decide +kernel
theorem dL_law_705 : decode cL_law 705 = .ok (.iconst 0, 1) := by decide +kernel
theorem dL_law_706 : decode cL_law 706 = .ok (.ireturn, 1) := by decide +kernel
theorem dL_law_707 : decode cL_law 707 = .ok (.aload_n 1, 1) := by decide +kernel
theorem dL_law_708 : decode cL_law 708 = .ok (.invokevirtual 96, 3) := by decide +kernel
theorem dL_law_711 : decode cL_law 711 = .ok (.aload_n 2, 1) := by decide +kernel
theorem dL_law_712 : decode cL_law 712 = .ok (.invokevirtual 99, 3) := by decide +kernel
theorem dL_law_715 : decode cL_law 715 = .ok (.if_icmp .eq 64, 3) := by decide +kernel
theorem dL_law_718 : decode cL_law 718 = .ok (.iconst 0, 1) := by decide +kernel
theorem dL_law_719 : decode cL_law 719 = .ok (.ireturn, 1) := by decide +kernel
theorem dL_law_720 : decode cL_law 720 = .ok (.aload_n 1, 1) := by decide +kernel
theorem dL_law_721 : decode cL_law 721 = .ok (.invokevirtual 100, 3) := by decide +kernel
theorem dL_law_724 : decode cL_law 724 = .ok (.aload_n 2, 1) := by decide +kernel
theorem dL_law_725 : decode cL_law 725 = .ok (.invokevirtual 103, 3) := by decide +kernel
theorem dL_law_728 : decode cL_law 728 = .ok (.if_icmp .eq 51, 3) := by decide +kernel
theorem dL_law_731 : decode cL_law 731 = .ok (.iconst 0, 1) := by decide +kernel
theorem dL_law_732 : decode cL_law 732 = .ok (.ireturn, 1) := by decide +kernel
theorem dL_law_733 : decode cL_law 733 = .ok (.aload_n 1, 1) := by decide +kernel
theorem dL_law_734 : decode cL_law 734 = .ok (.aload_n 0, 1) := by decide +kernel
theorem dL_law_735 : decode cL_law 735 = .ok (.iload_n 3, 1) := by decide +kernel
theorem dL_law_736 : decode cL_law 736 = .ok (.iconst 1, 1) := by decide +kernel
theorem dL_law_737 : decode cL_law 737 = .ok (.iadd, 1) := by decide +kernel
theorem dL_law_738 : decode cL_law 738 = .ok (.iaload, 1) := by decide +kernel
theorem dL_law_739 : decode cL_law 739 = .ok (.invokevirtual 104, 3) := by decide +kernel
theorem dL_law_742 : decode cL_law 742 = .ok (.aload_n 2, 1) := by decide +kernel
theorem dL_law_743 : decode cL_law 743 = .ok (.aload_n 0, 1) := by decide +kernel
theorem dL_law_744 : decode cL_law 744 = .ok (.iload_n 3, 1) := by decide +kernel
theorem dL_law_745 : decode cL_law 745 = .ok (.iconst 1, 1) := by decide +kernel
theorem dL_law_746 : decode cL_law 746 = .ok (.iadd, 1) := by decide +kernel
theorem dL_law_747 : decode cL_law 747 = .ok (.iaload, 1) := by decide +kernel
theorem dL_law_748 : decode cL_law 748 = .ok (.invokevirtual 107, 3) := by decide +kernel
theorem dL_law_751 : decode cL_law 751 = .ok (.if_icmp .eq 28, 3) := by decide +kernel
theorem dL_law_754 : decode cL_law 754 = .ok (.iconst 0, 1) := by decide +kernel
theorem dL_law_755 : decode cL_law 755 = .ok (.ireturn, 1) := by decide +kernel
theorem dL_law_756 : decode cL_law 756 = .ok (.aload_n 1, 1) := by decide +kernel
theorem dL_law_757 : decode cL_law 757 = .ok (.aload_n 0, 1) := by decide +kernel
theorem dL_law_758 : decode cL_law 758 = .ok (.iload_n 3, 1) := by decide +kernel
theorem dL_law_759 : decode cL_law 759 = .ok (.iconst 1, 1) := by decide +kernel
theorem dL_law_760 : decode cL_law 760 = .ok (.iadd, 1) := by decide +kernel
theorem dL_law_761 : decode cL_law 761 = .ok (.iaload, 1) := by decide +kernel
theorem dL_law_762 : decode cL_law 762 = .ok (.invokevirtual 108, 3) := by decide +kernel
theorem dL_law_765 : decode cL_law 765 = .ok (.aload_n 2, 1) := by decide +kernel
theorem dL_law_766 : decode cL_law 766 = .ok (.aload_n 0, 1) := by decide +kernel
theorem dL_law_767 : decode cL_law 767 = .ok (.iload_n 3, 1) := by decide +kernel
theorem dL_law_768 : decode cL_law 768 = .ok (.iconst 1, 1) := by decide +kernel
theorem dL_law_769 : decode cL_law 769 = .ok (.iadd, 1) := by decide +kernel
theorem dL_law_770 : decode cL_law 770 = .ok (.iaload, 1) := by decide +kernel
theorem dL_law_771 : decode cL_law 771 = .ok (.invokevirtual 111, 3) := by decide +kernel
theorem dL_law_774 : decode cL_law 774 = .ok (.if_icmp .eq 5, 3) := by decide +kernel
theorem dL_law_777 : decode cL_law 777 = .ok (.iconst 0, 1) := by decide +kernel
theorem dL_law_778 : decode cL_law 778 = .ok (.ireturn, 1) := by decide +kernel
theorem dL_law_779 : decode cL_law 779 = .ok (.iinc 3 4, 3) := by decide +kernel
theorem dL_law_782 : decode cL_law 782 = .ok (.goto (-764), 3) := by decide +kernel
theorem dL_law_785 : decode cL_law 785 = .ok (.iconst 1, 1) := by decide +kernel
theorem dL_law_786 : decode cL_law 786 = .ok (.ireturn, 1) := by decide +kernel
end
section
/-! ===== the base layer: nest mates' words, static arrays, the cells of the system, contexts, the judgement VV ===== -/
abbrev FN : Type := Nat → Int32
abbrev St : Type := Nat → FN
abbrev Gs : Type := Nat → St
abbrev nF : List (String × Nat × String × String × String × String) := [("ShoutGroups$Library", 11, "ShoutGroups", "AT_FIRST", "[I", "ShoutGroups"), ("ShoutGroups$Library", 97, "ShoutGroups$Cards", "kinds", "LShoutGroups$Row;", "ShoutGroups"), ("ShoutGroups", 132, "ShoutGroups$Cards", "kinds", "LShoutGroups$Row;", "ShoutGroups"), ("ShoutGroups", 135, "ShoutGroups$Cards", "names", "LShoutGroups$Row;", "ShoutGroups"), ("ShoutGroups", 155, "ShoutGroups$Shelves", "lengths", "LShoutGroups$Row;", "ShoutGroups"), ("ShoutGroups$Library", 169, "ShoutGroups$Shelves", "lengths", "LShoutGroups$Row;", "ShoutGroups"), ("ShoutGroups", 126, "ShoutGroups$Shelves", "holders", "LShoutGroups$Row;", "ShoutGroups"), ("ShoutGroups$Library", 182, "ShoutGroups$Shelves", "holders", "LShoutGroups$Row;", "ShoutGroups"), ("ShoutGroups$Library", 208, "ShoutGroups$Account", "kinds", "LShoutGroups$Row;", "ShoutGroups"), ("ShoutGroups$Library", 202, "ShoutGroups$Account", "readers", "LShoutGroups$Row;", "ShoutGroups"), ("ShoutGroups$Library", 205, "ShoutGroups$Account", "notes", "LShoutGroups$Row;", "ShoutGroups"), ("ShoutGroups", 225, "ShoutGroups$Account", "length", "I", "ShoutGroups"), ("ShoutGroups$Library", 195, "ShoutGroups$Account", "length", "I", "ShoutGroups"), ("ShoutGroups", 64, "ShoutGroups$Library", "settings", "LShoutGroups$Row;", "ShoutGroups"), ("ShoutGroups", 129, "ShoutGroups$Library", "values", "LShoutGroups$Row;", "ShoutGroups"), ("ShoutGroups", 50, "ShoutGroups$Library", "cards", "LShoutGroups$Cards;", "ShoutGroups"), ("ShoutGroups", 104, "ShoutGroups$Library", "shelves", "LShoutGroups$Shelves;", "ShoutGroups"), ("ShoutGroups", 86, "ShoutGroups$Library", "account", "LShoutGroups$Account;", "ShoutGroups"), ("ShoutGroups", 185, "ShoutGroups$Library", "totals", "LShoutGroups$Row;", "ShoutGroups"), ("ShoutGroups", 146, "ShoutGroups$Library", "noteCalledBack", "LShoutGroups$Row;", "ShoutGroups"), ("ShoutGroups", 149, "ShoutGroups$Library", "noteShouts", "LShoutGroups$Row;", "ShoutGroups"), ("ShoutGroups", 170, "ShoutGroups$Library", "readerUses", "LShoutGroups$Row;", "ShoutGroups"), ("ShoutGroups", 173, "ShoutGroups$Library", "readerQuietUses", "LShoutGroups$Row;", "ShoutGroups"), ("ShoutGroups", 176, "ShoutGroups$Library", "readerCalledBack", "LShoutGroups$Row;", "ShoutGroups"), ("ShoutGroups", 179, "ShoutGroups$Library", "readerWasted", "LShoutGroups$Row;", "ShoutGroups"), ("ShoutGroups", 201, "ShoutGroups$History", "length", "I", "ShoutGroups"), ("ShoutGroups$Orders", 23, "ShoutGroups$Pad", "length", "I", "ShoutGroups"), ("ShoutGroups", 197, "ShoutGroups$Pad", "length", "I", "ShoutGroups"), ("ShoutGroups", 243, "ShoutGroups$Orders", "place", "I", "ShoutGroups"), ("ShoutGroups", 250, "ShoutGroups$Orders", "kind", "I", "ShoutGroups"), ("ShoutGroups", 253, "ShoutGroups$Orders", "reader", "I", "ShoutGroups"), ("ShoutGroups", 256, "ShoutGroups$Orders", "note", "I", "ShoutGroups"), ("ShoutGroups", 259, "ShoutGroups$Orders", "value", "I", "ShoutGroups")]
abbrev nM : List (String × Nat × MethodName × String) := [("ShoutGroups$Library", 29, yX1_init, "ShoutGroups"), ("ShoutGroups$Library", 36, yX7_init, "ShoutGroups"), ("ShoutGroups$Library", 43, yX0_init, "ShoutGroups"), ("ShoutGroups", 32, yX5_init, "ShoutGroups"), ("ShoutGroups$Library", 86, yX8_isReader, "ShoutGroups"), ("ShoutGroups$Library", 90, yX8_isNote, "ShoutGroups"), ("ShoutGroups$Shelves", 36, yX8_isIn, "ShoutGroups"), ("ShoutGroups$Shelves", 44, yX8_only, "ShoutGroups"), ("ShoutGroups$Cards", 31, yX8_groupOf, "ShoutGroups"), ("ShoutGroups$Cards", 27, yX8_isIn, "ShoutGroups"), ("ShoutGroups$Cards", 35, yX8_only, "ShoutGroups"), ("ShoutGroups$Library", 157, yX8_isIn, "ShoutGroups"), ("ShoutGroups$Library", 145, yX8_only, "ShoutGroups")]
def nwF (q : String × Nat × String × String × String × String) : Cond := .fieldLinkNest q.1 q.2.1 q.2.2.1 q.2.2.2.1 q.2.2.2.2.1 q.2.2.2.2.2
def nwM (q : String × Nat × MethodName × String) : Cond := .methodLinkNest q.1 q.2.1 q.2.2.1 q.2.2.2
def fLow : FN := fun j => match j with | 0 => 0 | 1 => 1 | 2 => 1 | _ => 0
def fHigh : FN := fun j => match j with | 0 => 4 | 1 => 8 | 2 => 8 | _ => 1
def fFirst : FN := fun j => match j with | 0 => 2 | 1 => 4 | 2 => 3 | _ => 0
def saT (nm : String) (f : FN) (A : Nat → Prop) (U : State) (H : Heap) : Prop := ∃ t : Nat, va_Z RX8 nm "[I" (.ref t) A U H ∧ va_T .int t 4 (fun j => .int (f j)) A U H
theorem saT.moved {nm : String} {f : FN} {A : Nat → Prop} {u U : State} {H : Heap} (hvm : u.vm.Alike U.vm) (h : saT nm f A u H) : saT nm f A U H := by
  obtain ⟨t, h1, h2⟩ := h
  exact ⟨t, h1.moved hvm, h2.moved hvm⟩
theorem saT.kept {nm : String} {f : FN} {A : Nat → Prop} {U : State} {H H1 : Heap} (h : saT nm f A U H) (hq : ∀ a : Nat, a < H.size → ¬ A a → H1[a]? = H[a]?) : saT nm f A U H1 := by
  obtain ⟨t, h1, h2⟩ := h
  exact ⟨t, h1.kept hq, h2.kept hq⟩
def KW (D : va_G) (tys : List (ClassId × FieldType)) (A : Nat → Prop) (U : State) : Prop := va_K D vwCl tys U ∧ (∀ q ∈ nF, va_Nw (nwF q) U) ∧ (∀ q ∈ nM, va_Nw (nwM q) U) ∧ saT "LOWEST" fLow A U U.heap ∧ saT "HIGHEST" fHigh A U U.heap ∧ saT "AT_FIRST" fFirst A U U.heap
theorem KW.go {D : va_G} {tys : List (ClassId × FieldType)} {A : Nat → Prop} {s U : State} {H : Heap} {locs : List Loc} (K : KW D tys A s) (hS : va_S A s.heap H locs) (hU : U.heap = H) (hW : s.WarmedH U.vm) : KW D tys A U := by
  obtain ⟨k1, k2, k3, k4, k5, k6⟩ := K
  have hq : ∀ a : Nat, a < s.heap.size → ¬ A a → U.heap[a]? = s.heap[a]? := fun a h1 h2 => by rw [hU]; exact hS.2.1 a h1 h2
  exact ⟨va_K.moved hW.alike k1, fun q h => va_Nw.warmF hW (k2 q h), fun q h => va_Nw.warmM hW (k3 q h), (k4.kept hq).moved hW.alike, (k5.kept hq).moved hW.alike, (k6.kept hq).moved hW.alike⟩
theorem KW.blind {D : va_G} {tys : List (ClassId × FieldType)} {A : Nat → Prop} {U : State} {g : JFrame} {mk : MethodId} {a : Array Value} (K : KW D tys A U) : KW D tys A (U.calling g mk a) := by
  obtain ⟨k1, k2, k3, k4, k5, k6⟩ := K
  exact ⟨va_K.moved (u := U) (U := U.calling g mk a) (Vm.Alike.refl U.vm) k1, fun q h => va_Nw.same (u := U) (U := U.calling g mk a) rfl rfl (k2 q h), fun q h => va_Nw.same (u := U) (U := U.calling g mk a) rfl rfl (k3 q h), saT.moved (u := U) (U := U.calling g mk a) (Vm.Alike.refl U.vm) k4, saT.moved (u := U) (U := U.calling g mk a) (Vm.Alike.refl U.vm) k5, saT.moved (u := U) (U := U.calling g mk a) (Vm.Alike.refl U.vm) k6⟩
/-! the cells: the classes of arrays, the addresses by group and place, which cells there are -/
abbrev En : Type := (ClassId × ClassId × ClassId) × (Nat → Nat → Nat) × List (Nat × Nat)
abbrev eI (E : En) : ClassId := E.1.1
abbrev eZ (E : En) : ClassId := E.1.2.1
abbrev eL (E : En) : ClassId := E.1.2.2
abbrev eA (E : En) : Nat → Nat → Nat := E.2.1
abbrev eW (E : En) : List (Nat × Nat) := E.2.2
abbrev eT (E : En) : List (ClassId × FieldType) := [(eI E, .int), (eZ E, .boolean), (eL E, .object RX3)]
/-- group 0: the system's own object and what is beside its libraries -/
def topC (E : En) (k : Nat) (f : FN) : va_E := match k with
  | 0 => .inr (8, [.ref (eA E 2 0), .ref (eA E 3 0), .ref (eA E 0 1), .ref (eA E 0 3), .ref (eA E 0 4), .ref (eA E 0 7)])
  | 1 => .inr (2, [.ref (eA E 0 2), .int (f 1), .int (f 2)])
  | 2 => .inl (eL E, 6, .inr (.inr (.inr (.inr (fun j => some (eA E (j + 4) 0))))))
  | 3 => .inl (eL E, 2, .inr (.inr (.inr (.inr (fun j => if f j = 0 then none else some (eA E (j + 10) 0))))))
  | 4 => .inr (5, [.ref (eA E 0 5), .int (f 1)])
  | 5 => .inr (6, [.ref (eA E 0 6)])
  | 6 => .inl (eI E, 80, .inl f)
  | _ => .inr (4, [.ref (eA E 0 4), .int (f 1), .int (f 2), .int (f 3), .int (f 4), .int (f 5), .int (f 6)])
/-- group 1: the reference's object and its rows -/
def modC (E : En) (k : Nat) (f : FN) : va_E := match k with
  | 0 => .inr (9, [.ref (eA E 1 1), .ref (eA E 1 2), .int (f 2), .int (f 3), .ref (eA E 1 3), .ref (eA E 1 4), .ref (eA E 1 5), .ref (eA E 1 6), .int (f 8), .int (f 9), .int (f 10), .int (f 11), .ref (eA E 1 7), .ref (eA E 1 8)])
  | 1 => .inl (eI E, 652, .inl f)
  | 2 => .inl (eI E, 3912, .inl f)
  | 3 => .inl (eI E, 1304, .inl f)
  | 4 => .inl (eZ E, 2, .inl f)
  | 5 => .inl (eI E, 652, .inl f)
  | 6 => .inl (eI E, 80, .inl f)
  | 7 => .inl (eI E, 29, .inl f)
  | _ => .inl (eI E, 87, .inl f)
/-- group b + 2: the library b -/
def libC (E : En) (o k : Nat) (f : FN) : va_E := match k with
  | 0 => .inr (3, [.ref (eA E o 1), .ref (eA E o 3), .ref (eA E o 5), .ref (eA E o 10), .ref (eA E o 21), .ref (eA E o 28), .ref (eA E o 30), .ref (eA E o 32), .ref (eA E o 34), .ref (eA E o 36), .ref (eA E o 38), .ref (eA E o 40)])
  | 1 => .inr (6, [.ref (eA E o 2)])
  | 2 => .inl (eI E, 4, .inl f)
  | 3 => .inr (6, [.ref (eA E o 4)])
  | 4 => .inl (eI E, 24, .inl f)
  | 5 => .inr (1, [.ref (eA E o 6), .ref (eA E o 8)])
  | 6 => .inr (6, [.ref (eA E o 7)])
  | 7 => .inl (eI E, 24, .inl f)
  | 8 => .inr (6, [.ref (eA E o 9)])
  | 9 => .inl (eI E, 24, .inl f)
  | 10 => .inr (7, [.ref (eA E o 11), .ref (eA E o 13), .ref (eA E o 15), .ref (eA E o 17), .ref (eA E o 19)])
  | 11 => .inr (6, [.ref (eA E o 12)])
  | 12 => .inl (eI E, 16, .inl f)
  | 13 => .inr (6, [.ref (eA E o 14)])
  | 14 => .inl (eI E, 128, .inl f)
  | 15 => .inr (6, [.ref (eA E o 16)])
  | 16 => .inl (eI E, 128, .inl f)
  | 17 => .inr (6, [.ref (eA E o 18)])
  | 18 => .inl (eI E, 128, .inl f)
  | 19 => .inr (6, [.ref (eA E o 20)])
  | 20 => .inl (eI E, 24, .inl f)
  | 21 => .inr (0, [.ref (eA E o 22), .ref (eA E o 24), .ref (eA E o 26), .int (f 3), .int (f 4)])
  | 22 => .inr (6, [.ref (eA E o 23)])
  | 23 => .inl (eI E, 60, .inl f)
  | 24 => .inr (6, [.ref (eA E o 25)])
  | 25 => .inl (eI E, 60, .inl f)
  | 26 => .inr (6, [.ref (eA E o 27)])
  | 27 => .inl (eI E, 60, .inl f)
  | 28 => .inr (6, [.ref (eA E o 29)])
  | 29 => .inl (eI E, 3, .inl f)
  | 30 => .inr (6, [.ref (eA E o 31)])
  | 31 => .inl (eI E, 24, .inl f)
  | 32 => .inr (6, [.ref (eA E o 33)])
  | 33 => .inl (eI E, 24, .inl f)
  | 34 => .inr (6, [.ref (eA E o 35)])
  | 35 => .inl (eI E, 16, .inl f)
  | 36 => .inr (6, [.ref (eA E o 37)])
  | 37 => .inl (eI E, 16, .inl f)
  | 38 => .inr (6, [.ref (eA E o 39)])
  | 39 => .inl (eI E, 16, .inl f)
  | 40 => .inr (6, [.ref (eA E o 41)])
  | _ => .inl (eI E, 16, .inl f)
def cel (E : En) (o k : Nat) (f : FN) : va_E := match o with
  | 0 => topC E k f
  | 1 => modC E k f
  | b + 2 => libC E (b + 2) k f
def celG (E : En) (G : Gs) (q : Nat × Nat) : va_E := cel E q.1 q.2 (G q.1 q.2)
def wl (E : En) (G : Gs) : va_W := (eW E).map (fun q => (eA E q.1 q.2, celG E G q))
theorem up_self {α : Type} (f : Nat → α) (k : Nat) (v : α) : va_up f k v k = v := by simp [va_up]
theorem up_ne {α : Type} (f : Nat → α) {k j : Nat} (v : α) (h : j ≠ k) : va_up f k v j = f j := by simp [va_up, h]
theorem up_up {α : Type} (f : Nat → α) (k : Nat) (v w : α) : va_up (va_up f k v) k w = va_up f k w := by
  funext j
  by_cases h : j = k <;> simp [va_up, h]
theorem up_id {α : Type} (f : Nat → α) (k : Nat) : va_up f k (f k) = f := by
  funext j
  by_cases h : j = k <;> simp [va_up, h]
theorem up_eta {α : Type} {f : Nat → α} {k : Nat} {v : α} (h : f k = v) : va_up f k v = f := by rw [← h]; exact up_id f k
theorem wl_at {E : En} {o k : Nat} (G : Gs) (hm : (o, k) ∈ eW E) : ∃ q0 : Nat, (wl E G)[q0]? = some (eA E o k, cel E o k (G o k)) := by
  obtain ⟨i, hi⟩ := List.getElem?_of_mem hm
  exact ⟨i, by rw [wl, List.getElem?_map, hi]; rfl⟩
theorem wl_set {E : En} {o k q0 : Nat} {G : Gs} {A : Nat → Prop} {e0 : va_E} (f : FN) (hD : va_D A (wl E G)) (hm : (o, k) ∈ eW E) (h0 : (wl E G)[q0]? = some (eA E o k, e0)) : (wl E G).set q0 (eA E o k, cel E o k f) = wl E (va_up G o (va_up (G o) k f)) := by
  have hl : q0 < (wl E G).length := (List.getElem?_eq_some_iff.mp h0).1
  have hlen : (wl E G).length = (eW E).length := by simp [wl]
  have apart : ∀ (j : Nat) (q : Nat × Nat), (eW E)[j]? = some q → q = (o, k) → j = q0 := by
    intro j q hj hq
    subst hq
    have h1 : (wl E G)[j]? = some (eA E o k, celG E G (o, k)) := by rw [wl, List.getElem?_map, hj]; rfl
    exact hD.1 j q0 _ _ h1 h0 rfl
  obtain ⟨i0, hi0⟩ := List.getElem?_of_mem hm
  have hi : i0 = q0 := apart i0 _ hi0 rfl
  subst hi
  refine List.ext_getElem? (fun j => ?_)
  by_cases hj : j = i0
  · subst hj
    rw [List.getElem?_set_self hl, wl, List.getElem?_map, hi0]
    simp [celG, va_up]
  · rw [List.getElem?_set_ne (Ne.symm hj), wl, wl, List.getElem?_map, List.getElem?_map]
    cases hq : (eW E)[j]? with
    | none => rfl
    | some q =>
      have hne : ¬ q = (o, k) := fun h => hj (apart j q hq h)
      have : celG E (va_up G o (va_up (G o) k f)) q = celG E G q := by
        obtain ⟨o', k'⟩ := q
        show cel E o' k' (va_up G o (va_up (G o) k f) o' k') = cel E o' k' (G o' k')
        by_cases ho : o' = o
        · subst ho
          have hk : k' ≠ k := fun h => hne (by rw [h])
          rw [up_self, up_ne _ _ hk]
        · rw [up_ne _ _ ho]
      simp [this]
theorem wl_D {E : En} {G G' : Gs} {A : Nat → Prop} (hD : va_D A (wl E G)) : va_D A (wl E G') := by
  have key : ∀ (k : Nat) (q : Nat × va_E), (wl E G')[k]? = some q → ∃ q', (wl E G)[k]? = some q' ∧ q'.1 = q.1 := by
    intro k q h
    rw [wl, List.getElem?_map] at h
    cases hq : (eW E)[k]? with
    | none => rw [hq] at h; cases h
    | some r =>
      rw [hq] at h
      cases h
      exact ⟨(eA E r.1 r.2, celG E G r), by rw [wl, List.getElem?_map, hq]; rfl, rfl⟩
  refine ⟨fun i j p q h1 h2 h3 => ?_, fun k q h => ?_⟩
  · obtain ⟨p', a1, a2⟩ := key i p h1
    obtain ⟨q', b1, b2⟩ := key j q h2
    exact hD.1 i j p' q' a1 b1 (a2.trans (h3.trans b2.symm))
  · obtain ⟨q', a1, a2⟩ := key k q h
    rw [← a2]
    exact hD.2 k q' a1
/-! contexts and the judgement -/
def Cx (p : Program) (s : State) (m : MethodId) (args : Array Value) (meth : Method) (c : Code) (D : va_G) (E : En) (A : Nat → Prop) (own : String) (cc : ByteArray) (nL : Nat) (ret : Option FieldType) (Ts : List Cond) : Prop :=
  p.tables.exec = Jvm.exec ∧ c.code = cc ∧ c.maxLocals = nL ∧ s.vm.findClass own = some m.cls ∧ (∀ w ∈ Ts, w.before args s = true) ∧ (∀ w ∈ wsL_law, w ∈ Ts) ∧ KW D (eT E) A s ∧ meth.sig.returnType = ret ∧ meth.locks = false
def VV (p : Program) (l : Launch) (e : Env) (R : Room) (s : State) (m : MethodId) (args : Array Value) (below : List Frame) (meth : Method) (c : Code) (Q : State → Prop) (D : va_G) (A : Nat → Prop) (nL : Nat) (pc : Nat) (st : List Value) (lv : List (Nat × Value)) (ws : va_W) : Prop :=
  ∀ (H : Heap) (locs : List Loc) (ls : Array Slot), va_P D vwCl ws H → va_D A ws → va_S A s.heap H locs → lv_has ls nL lv → W p l e R s m args below meth c H locs 0 0 Q (F0 m pc ls st)
def CQ (D : va_G) (A : Nat → Prop) (rv : Option Value) (ws1 : va_W) : Array Value → State → Outcome → State → Prop := fun _ st oc t => (oc = .returned rv ∧ va_P D vwCl ws1 t.heap ∧ va_D A ws1) ∧ va_F A st t
def CP (D : va_G) (E : En) (A : Nat → Prop) (ws0 : va_W) : State → Prop := fun U => KW D (eT E) A U ∧ va_P D vwCl ws0 U.heap ∧ va_D A ws0
/-- a contract: no cell is made -/
def Ctr (l : Launch) (D : va_G) (E : En) (A : Nat → Prop) (y : MethodName) (bytes : ByteArray) (maxL : Nat) (ret : Option FieldType) (rm : Room) (av : List Value) (ws0 : va_W) (rv : Option Value) (ws1 : va_W) : Prop :=
  Met l y (.code y bytes maxL ret :: wsL_law) rm (va_Pc av (CP D E A ws0)) (CQ D A rv ws1) 0 0 A
theorem Ctr.of {l : Launch} {D : va_G} {E : En} {A : Nat → Prop} {y : MethodName} {own : String} {bytes : ByteArray} {maxL : Nat} {ret : Option FieldType} {rm : Room} {av : List Value} {ws0 : va_W} {rv : Option Value} {ws1 : va_W} (hy : plainName y.cls = true) (ho : y.cls = own) (hsz : (lg_sl av).length ≤ maxL)
    (body : ∀ (p : Program) (e : Env) (s : State) (m : MethodId) (args : Array Value) (below : List Frame) (meth : Method) (c : Code), Cx p s m args meth c D E A own bytes maxL ret (.code y bytes maxL ret :: wsL_law) → VV p l e rm s m args below meth c (MQ below (CQ D A rv ws1) args s 0 0 A) D A maxL 0 [] (lv_args 0 av) ws0) : Ctr l D E A y bytes maxL ret rm av ws0 rv ws1 := by
  refine Met.ofW (cc := bytes) (maxL := maxL) (ret := ret) hy rfl ?_
  intro p e s m args below meth c s₁ B hml hv
  obtain ⟨rfl, hK, hP, hD⟩ := hv
  have hl := lv_entry av (n := maxL) hsz
  rw [lg_entry_eq]
  exact body p e s m _ below meth c ⟨B.exec, B.bytes, hml, ho ▸ findClass_of_methodNamed B.named, atoms_spec B.pre, fun _ h => List.mem_cons_of_mem _ h, hK, B.returns, B.notSynchronized⟩ s.heap [] _ hP hD va_S.rf hl
end
section
variable {p : Program} {l : Launch} {e : Env} {R : Room} {s : State} {m : MethodId} {args : Array Value} {below : List Frame} {meth : Method} {c : Code} {Q : State → Prop} {D : va_G} {E : En} {A : Nat → Prop} {own : String} {cc : ByteArray} {nL : Nat} {ret : Option FieldType} {Ts : List Cond} {pc : Nat} {st : List Value} {lv lv' : List (Nat × Value)} {ws : va_W}
theorem Cx.word (K : Cx p s m args meth c D E A own cc nL ret Ts) {w : Cond} (h : w ∈ wsL_law) : w.before args s = true := K.2.2.2.2.1 w (K.2.2.2.2.2.1 w h)
theorem v_iconst (K : Cx p s m args meth c D E A own cc nL ret Ts) {n : Int} {v : Int32} (hdg : decode cc pc = .ok (.iconst n, 1)) (hv : Int32.ofInt n = v) (k : VV p l e R s m args below meth c Q D A nL (pc + 1) (.int v :: st) (lv) (ws)) : VV p l e R s m args below meth c Q D A nL (pc) (st) (lv) (ws) := fun H locs ls hP hD hS hl => lv_iconst K.1 K.2.1 hdg hv (k H locs ls hP hD hS hl)
theorem v_bipush (K : Cx p s m args meth c D E A own cc nL ret Ts) {n : Int} {v : Int32} (hdg : decode cc pc = .ok (.bipush n, 2)) (hv : (Int8.ofInt n).toInt32 = v) (k : VV p l e R s m args below meth c Q D A nL (pc + 2) (.int v :: st) (lv) (ws)) : VV p l e R s m args below meth c Q D A nL (pc) (st) (lv) (ws) := fun H locs ls hP hD hS hl => lv_bipush K.1 K.2.1 hdg hv (k H locs ls hP hD hS hl)
theorem v_sipush (K : Cx p s m args meth c D E A own cc nL ret Ts) {n : Int} {v : Int32} (hdg : decode cc pc = .ok (.sipush n, 3)) (hv : (Int16.ofInt n).toInt32 = v) (k : VV p l e R s m args below meth c Q D A nL (pc + 3) (.int v :: st) (lv) (ws)) : VV p l e R s m args below meth c Q D A nL (pc) (st) (lv) (ws) := fun H locs ls hP hD hS hl => lv_sipush K.1 K.2.1 hdg hv (k H locs ls hP hD hS hl)
theorem v_ldcw (K : Cx p s m args meth c D E A own cc nL ret Ts) {index : Nat} {v : Int32} (hdg : decode cc pc = .ok (.ldc_w index, 3)) (hw : Cond.constant own index v ∈ wsL_law) (k : VV p l e R s m args below meth c Q D A nL (pc + 3) (.int v :: st) (lv) (ws)) : VV p l e R s m args below meth c Q D A nL (pc) (st) (lv) (ws) := fun H locs ls hP hD hS hl => lv_ldcw K.1 K.2.1 K.2.2.2.1 (K.word hw) hdg (k H locs ls hP hD hS hl)
theorem v_ldc2 (K : Cx p s m args meth c D E A own cc nL ret Ts) {index : Nat} {v : Int64} (hdg : decode cc pc = .ok (.ldc2_w index, 3)) (hw : Cond.constantLong own index v ∈ wsL_law) (k : VV p l e R s m args below meth c Q D A nL (pc + 3) (.long v :: st) (lv) (ws)) : VV p l e R s m args below meth c Q D A nL (pc) (st) (lv) (ws) := fun H locs ls hP hD hS hl => lv_ldc2 K.1 K.2.1 K.2.2.2.1 (K.word hw) hdg (k H locs ls hP hD hS hl)
theorem v_lconst (K : Cx p s m args meth c D E A own cc nL ret Ts) {n : Fin 2} {v : Int64} (hdg : decode cc pc = .ok (.lconst n, 1)) (hv : Int64.ofNat (n : Nat) = v) (k : VV p l e R s m args below meth c Q D A nL (pc + 1) (.long v :: st) (lv) (ws)) : VV p l e R s m args below meth c Q D A nL (pc) (st) (lv) (ws) := fun H locs ls hP hD hS hl => lv_lconst K.1 K.2.1 hdg hv (k H locs ls hP hD hS hl)
theorem v_null (K : Cx p s m args meth c D E A own cc nL ret Ts)  (hdg : decode cc pc = .ok (.aconst_null, 1))  (k : VV p l e R s m args below meth c Q D A nL (pc + 1) (.null :: st) (lv) (ws)) : VV p l e R s m args below meth c Q D A nL (pc) (st) (lv) (ws) := fun H locs ls hP hD hS hl => lv_null K.1 K.2.1 hdg (k H locs ls hP hD hS hl)
theorem v_iload_n (K : Cx p s m args meth c D E A own cc nL ret Ts) (q : Nat) {k0 : Fin 4} {i : Nat} {x : Int32} (hdg : decode cc pc = .ok (.iload_n k0, 1)) (hi : (k0 : Nat) = i) (hq : lv[q]? = some (i, .int x)) (k : VV p l e R s m args below meth c Q D A nL (pc + 1) (.int x :: st) (lv) (ws)) : VV p l e R s m args below meth c Q D A nL (pc) (st) (lv) (ws) := fun H locs ls hP hD hS hl => lv_iload_n K.1 K.2.1 hdg hi (lv_at hl q hq) (k H locs ls hP hD hS hl)
theorem v_iload (K : Cx p s m args meth c D E A own cc nL ret Ts) (q : Nat) {i : Nat} {x : Int32} (hdg : decode cc pc = .ok (.iload i, 2)) (hq : lv[q]? = some (i, .int x)) (k : VV p l e R s m args below meth c Q D A nL (pc + 2) (.int x :: st) (lv) (ws)) : VV p l e R s m args below meth c Q D A nL (pc) (st) (lv) (ws) := fun H locs ls hP hD hS hl => lv_iload K.1 K.2.1 hdg (lv_at hl q hq) (k H locs ls hP hD hS hl)
theorem v_aload_n (K : Cx p s m args meth c D E A own cc nL ret Ts) (q : Nat) {k0 : Fin 4} {i : Nat} {x : Nat} (hdg : decode cc pc = .ok (.aload_n k0, 1)) (hi : (k0 : Nat) = i) (hq : lv[q]? = some (i, .ref x)) (k : VV p l e R s m args below meth c Q D A nL (pc + 1) (.ref x :: st) (lv) (ws)) : VV p l e R s m args below meth c Q D A nL (pc) (st) (lv) (ws) := fun H locs ls hP hD hS hl => lv_aload_n K.1 K.2.1 hdg hi (lv_at hl q hq) (k H locs ls hP hD hS hl)
theorem v_aload (K : Cx p s m args meth c D E A own cc nL ret Ts) (q : Nat) {i : Nat} {x : Nat} (hdg : decode cc pc = .ok (.aload i, 2)) (hq : lv[q]? = some (i, .ref x)) (k : VV p l e R s m args below meth c Q D A nL (pc + 2) (.ref x :: st) (lv) (ws)) : VV p l e R s m args below meth c Q D A nL (pc) (st) (lv) (ws) := fun H locs ls hP hD hS hl => lv_aload K.1 K.2.1 hdg (lv_at hl q hq) (k H locs ls hP hD hS hl)
theorem v_lload_n (K : Cx p s m args meth c D E A own cc nL ret Ts) (q : Nat) {k0 : Fin 4} {i : Nat} {x : Int64} (hdg : decode cc pc = .ok (.lload_n k0, 1)) (hi : (k0 : Nat) = i) (hq : lv[q]? = some (i, .long x)) (k : VV p l e R s m args below meth c Q D A nL (pc + 1) (.long x :: st) (lv) (ws)) : VV p l e R s m args below meth c Q D A nL (pc) (st) (lv) (ws) := fun H locs ls hP hD hS hl => lv_lload_n K.1 K.2.1 hdg hi (lv_at hl q hq) (k H locs ls hP hD hS hl)
theorem v_lload (K : Cx p s m args meth c D E A own cc nL ret Ts) (q : Nat) {i : Nat} {x : Int64} (hdg : decode cc pc = .ok (.lload i, 2)) (hq : lv[q]? = some (i, .long x)) (k : VV p l e R s m args below meth c Q D A nL (pc + 2) (.long x :: st) (lv) (ws)) : VV p l e R s m args below meth c Q D A nL (pc) (st) (lv) (ws) := fun H locs ls hP hD hS hl => lv_lload K.1 K.2.1 hdg (lv_at hl q hq) (k H locs ls hP hD hS hl)
theorem v_istore_n (K : Cx p s m args meth c D E A own cc nL ret Ts) {k0 : Fin 4} {i : Nat} {x : Int32} (hdg : decode cc pc = .ok (.istore_n k0, 1)) (hi : (k0 : Nat) = i) (hn : i < nL) (hl' : (i, Value.int x) :: lv.filter (fun q => !(q.1 == i) && !(q.1 + 1 == i && q.2.category == 2)) = lv') (k : VV p l e R s m args below meth c Q D A nL (pc + 1) (st) (lv') (ws)) : VV p l e R s m args below meth c Q D A nL (pc) (.int x :: st) (lv) (ws) := fun H locs ls hP hD hS hl => lv_istore_n K.1 K.2.1 hdg hi hl hn hl' (fun ls hl => (k H locs ls hP hD hS hl))
theorem v_istore (K : Cx p s m args meth c D E A own cc nL ret Ts) {i : Nat} {x : Int32} (hdg : decode cc pc = .ok (.istore i, 2)) (hn : i < nL) (hl' : (i, Value.int x) :: lv.filter (fun q => !(q.1 == i) && !(q.1 + 1 == i && q.2.category == 2)) = lv') (k : VV p l e R s m args below meth c Q D A nL (pc + 2) (st) (lv') (ws)) : VV p l e R s m args below meth c Q D A nL (pc) (.int x :: st) (lv) (ws) := fun H locs ls hP hD hS hl => lv_istore K.1 K.2.1 hdg hl hn hl' (fun ls hl => (k H locs ls hP hD hS hl))
theorem v_astore_n (K : Cx p s m args meth c D E A own cc nL ret Ts) {k0 : Fin 4} {i : Nat} {x : Nat} (hdg : decode cc pc = .ok (.astore_n k0, 1)) (hi : (k0 : Nat) = i) (hn : i < nL) (hl' : (i, Value.ref x) :: lv.filter (fun q => !(q.1 == i) && !(q.1 + 1 == i && q.2.category == 2)) = lv') (k : VV p l e R s m args below meth c Q D A nL (pc + 1) (st) (lv') (ws)) : VV p l e R s m args below meth c Q D A nL (pc) (.ref x :: st) (lv) (ws) := fun H locs ls hP hD hS hl => lv_astore_n K.1 K.2.1 hdg hi hl hn hl' (fun ls hl => (k H locs ls hP hD hS hl))
theorem v_astore (K : Cx p s m args meth c D E A own cc nL ret Ts) {i : Nat} {x : Nat} (hdg : decode cc pc = .ok (.astore i, 2)) (hn : i < nL) (hl' : (i, Value.ref x) :: lv.filter (fun q => !(q.1 == i) && !(q.1 + 1 == i && q.2.category == 2)) = lv') (k : VV p l e R s m args below meth c Q D A nL (pc + 2) (st) (lv') (ws)) : VV p l e R s m args below meth c Q D A nL (pc) (.ref x :: st) (lv) (ws) := fun H locs ls hP hD hS hl => lv_astore K.1 K.2.1 hdg hl hn hl' (fun ls hl => (k H locs ls hP hD hS hl))
theorem v_lstore (K : Cx p s m args meth c D E A own cc nL ret Ts) {i : Nat} {x : Int64} (hdg : decode cc pc = .ok (.lstore i, 2)) (hn : i + 1 < nL) (hl' : (i, Value.long x) :: lv.filter (fun q => !(q.1 == i) && (!(q.1 == i + 1) && !(q.1 + 1 == i && q.2.category == 2))) = lv') (k : VV p l e R s m args below meth c Q D A nL (pc + 2) (st) (lv') (ws)) : VV p l e R s m args below meth c Q D A nL (pc) (.long x :: st) (lv) (ws) := fun H locs ls hP hD hS hl => lv_lstore K.1 K.2.1 hdg hl hn hl' (fun ls hl => (k H locs ls hP hD hS hl))
theorem v_iinc (K : Cx p s m args meth c D E A own cc nL ret Ts) (q : Nat) {i : Nat} {n : Int} {x v : Int32} (hdg : decode cc pc = .ok (.iinc i n, 3)) (hq : lv[q]? = some (i, .int x)) (hv : x + Int32.ofInt n = v) (hn : i < nL) (hl' : (i, Value.int v) :: lv.filter (fun q => !(q.1 == i) && !(q.1 + 1 == i && q.2.category == 2)) = lv') (k : VV p l e R s m args below meth c Q D A nL (pc + 3) (st) (lv') (ws)) : VV p l e R s m args below meth c Q D A nL (pc) (st) (lv) (ws) := fun H locs ls hP hD hS hl => lv_iinc K.1 K.2.1 hdg hl hq hv hn hl' (fun ls hl => (k H locs ls hP hD hS hl))
theorem v_iadd (K : Cx p s m args meth c D E A own cc nL ret Ts) {x y : Int32} (hdg : decode cc pc = .ok (.iadd, 1))  (k : VV p l e R s m args below meth c Q D A nL (pc + 1) (.int (x + y) :: st) (lv) (ws)) : VV p l e R s m args below meth c Q D A nL (pc) (.int y :: .int x :: st) (lv) (ws) := fun H locs ls hP hD hS hl => lv_iadd K.1 K.2.1 hdg (k H locs ls hP hD hS hl)
theorem v_isub (K : Cx p s m args meth c D E A own cc nL ret Ts) {x y : Int32} (hdg : decode cc pc = .ok (.isub, 1))  (k : VV p l e R s m args below meth c Q D A nL (pc + 1) (.int (x - y) :: st) (lv) (ws)) : VV p l e R s m args below meth c Q D A nL (pc) (.int y :: .int x :: st) (lv) (ws) := fun H locs ls hP hD hS hl => lv_isub K.1 K.2.1 hdg (k H locs ls hP hD hS hl)
theorem v_imul (K : Cx p s m args meth c D E A own cc nL ret Ts) {x y : Int32} (hdg : decode cc pc = .ok (.imul, 1))  (k : VV p l e R s m args below meth c Q D A nL (pc + 1) (.int (x * y) :: st) (lv) (ws)) : VV p l e R s m args below meth c Q D A nL (pc) (.int y :: .int x :: st) (lv) (ws) := fun H locs ls hP hD hS hl => lv_imul K.1 K.2.1 hdg (k H locs ls hP hD hS hl)
theorem v_ishl (K : Cx p s m args meth c D E A own cc nL ret Ts) {x y : Int32} (hdg : decode cc pc = .ok (.ishl, 1))  (k : VV p l e R s m args below meth c Q D A nL (pc + 1) (.int (x <<< (y &&& 31)) :: st) (lv) (ws)) : VV p l e R s m args below meth c Q D A nL (pc) (.int y :: .int x :: st) (lv) (ws) := fun H locs ls hP hD hS hl => lv_ishl K.1 K.2.1 hdg (k H locs ls hP hD hS hl)
theorem v_ishr (K : Cx p s m args meth c D E A own cc nL ret Ts) {x y : Int32} (hdg : decode cc pc = .ok (.ishr, 1))  (k : VV p l e R s m args below meth c Q D A nL (pc + 1) (.int (x >>> (y &&& 31)) :: st) (lv) (ws)) : VV p l e R s m args below meth c Q D A nL (pc) (.int y :: .int x :: st) (lv) (ws) := fun H locs ls hP hD hS hl => lv_ishr K.1 K.2.1 hdg (k H locs ls hP hD hS hl)
theorem v_iand (K : Cx p s m args meth c D E A own cc nL ret Ts) {x y : Int32} (hdg : decode cc pc = .ok (.iand, 1))  (k : VV p l e R s m args below meth c Q D A nL (pc + 1) (.int (x &&& y) :: st) (lv) (ws)) : VV p l e R s m args below meth c Q D A nL (pc) (.int y :: .int x :: st) (lv) (ws) := fun H locs ls hP hD hS hl => lv_iand K.1 K.2.1 hdg (k H locs ls hP hD hS hl)
theorem v_ior (K : Cx p s m args meth c D E A own cc nL ret Ts) {x y : Int32} (hdg : decode cc pc = .ok (.ior, 1))  (k : VV p l e R s m args below meth c Q D A nL (pc + 1) (.int (x ||| y) :: st) (lv) (ws)) : VV p l e R s m args below meth c Q D A nL (pc) (.int y :: .int x :: st) (lv) (ws) := fun H locs ls hP hD hS hl => lv_ior K.1 K.2.1 hdg (k H locs ls hP hD hS hl)
theorem v_ixor (K : Cx p s m args meth c D E A own cc nL ret Ts) {x y : Int32} (hdg : decode cc pc = .ok (.ixor, 1))  (k : VV p l e R s m args below meth c Q D A nL (pc + 1) (.int (x ^^^ y) :: st) (lv) (ws)) : VV p l e R s m args below meth c Q D A nL (pc) (.int y :: .int x :: st) (lv) (ws) := fun H locs ls hP hD hS hl => lv_ixor K.1 K.2.1 hdg (k H locs ls hP hD hS hl)
theorem v_iushr (K : Cx p s m args meth c D E A own cc nL ret Ts) {x y : Int32} (hdg : decode cc pc = .ok (.iushr, 1))  (k : VV p l e R s m args below meth c Q D A nL (pc + 1) (.int ((x.toUInt32 >>> (y.toUInt32 &&& Int32.toUInt32 31)).toInt32) :: st) (lv) (ws)) : VV p l e R s m args below meth c Q D A nL (pc) (.int y :: .int x :: st) (lv) (ws) := fun H locs ls hP hD hS hl => lv_iushr K.1 K.2.1 hdg rfl (k H locs ls hP hD hS hl)
theorem v_idiv (K : Cx p s m args meth c D E A own cc nL ret Ts) {x y : Int32} (hdg : decode cc pc = .ok (.idiv, 1)) (hne : ¬ y = 0) (k : VV p l e R s m args below meth c Q D A nL (pc + 1) (.int (x / y) :: st) (lv) (ws)) : VV p l e R s m args below meth c Q D A nL (pc) (.int y :: .int x :: st) (lv) (ws) := fun H locs ls hP hD hS hl => lv_idiv K.1 K.2.1 hdg hne (k H locs ls hP hD hS hl)
theorem v_irem (K : Cx p s m args meth c D E A own cc nL ret Ts) {x y : Int32} (hdg : decode cc pc = .ok (.irem, 1)) (hne : ¬ y = 0) (k : VV p l e R s m args below meth c Q D A nL (pc + 1) (.int (x - x / y * y) :: st) (lv) (ws)) : VV p l e R s m args below meth c Q D A nL (pc) (.int y :: .int x :: st) (lv) (ws) := fun H locs ls hP hD hS hl => lv_irem K.1 K.2.1 hdg hne (k H locs ls hP hD hS hl)
theorem v_land (K : Cx p s m args meth c D E A own cc nL ret Ts) {x y : Int64} (hdg : decode cc pc = .ok (.land, 1))  (k : VV p l e R s m args below meth c Q D A nL (pc + 1) (.long (x &&& y) :: st) (lv) (ws)) : VV p l e R s m args below meth c Q D A nL (pc) (.long y :: .long x :: st) (lv) (ws) := fun H locs ls hP hD hS hl => lv_land K.1 K.2.1 hdg (k H locs ls hP hD hS hl)
theorem v_lor (K : Cx p s m args meth c D E A own cc nL ret Ts) {x y : Int64} (hdg : decode cc pc = .ok (.lor, 1))  (k : VV p l e R s m args below meth c Q D A nL (pc + 1) (.long (x ||| y) :: st) (lv) (ws)) : VV p l e R s m args below meth c Q D A nL (pc) (.long y :: .long x :: st) (lv) (ws) := fun H locs ls hP hD hS hl => lv_lor K.1 K.2.1 hdg (k H locs ls hP hD hS hl)
theorem v_lushr (K : Cx p s m args meth c D E A own cc nL ret Ts) {x : Int64} {y : Int32} (hdg : decode cc pc = .ok (.lushr, 1))  (k : VV p l e R s m args below meth c Q D A nL (pc + 1) (.long ((x.toUInt64 >>> (y.toInt64.toUInt64 &&& Int64.toUInt64 63)).toInt64) :: st) (lv) (ws)) : VV p l e R s m args below meth c Q D A nL (pc) (.int y :: .long x :: st) (lv) (ws) := fun H locs ls hP hD hS hl => lv_lushr K.1 K.2.1 hdg rfl (k H locs ls hP hD hS hl)
theorem v_lshr (K : Cx p s m args meth c D E A own cc nL ret Ts) {x : Int64} {y : Int32} (hdg : decode cc pc = .ok (.lshr, 1))  (k : VV p l e R s m args below meth c Q D A nL (pc + 1) (.long (x >>> (y.toInt64 &&& 63)) :: st) (lv) (ws)) : VV p l e R s m args below meth c Q D A nL (pc) (.int y :: .long x :: st) (lv) (ws) := fun H locs ls hP hD hS hl => lv_lshr K.1 K.2.1 hdg rfl (k H locs ls hP hD hS hl)
theorem v_lshl (K : Cx p s m args meth c D E A own cc nL ret Ts) {x : Int64} {y : Int32} (hdg : decode cc pc = .ok (.lshl, 1))  (k : VV p l e R s m args below meth c Q D A nL (pc + 1) (.long (x <<< (y.toInt64 &&& 63)) :: st) (lv) (ws)) : VV p l e R s m args below meth c Q D A nL (pc) (.int y :: .long x :: st) (lv) (ws) := fun H locs ls hP hD hS hl => lv_lshl K.1 K.2.1 hdg rfl (k H locs ls hP hD hS hl)
theorem v_l2i (K : Cx p s m args meth c D E A own cc nL ret Ts) {x : Int64} (hdg : decode cc pc = .ok (.l2i, 1))  (k : VV p l e R s m args below meth c Q D A nL (pc + 1) (.int x.toInt32 :: st) (lv) (ws)) : VV p l e R s m args below meth c Q D A nL (pc) (.long x :: st) (lv) (ws) := fun H locs ls hP hD hS hl => lv_l2i K.1 K.2.1 hdg rfl (k H locs ls hP hD hS hl)
theorem v_i2l (K : Cx p s m args meth c D E A own cc nL ret Ts) {x : Int32} (hdg : decode cc pc = .ok (.i2l, 1))  (k : VV p l e R s m args below meth c Q D A nL (pc + 1) (.long x.toInt64 :: st) (lv) (ws)) : VV p l e R s m args below meth c Q D A nL (pc) (.int x :: st) (lv) (ws) := fun H locs ls hP hD hS hl => lv_i2l K.1 K.2.1 hdg rfl (k H locs ls hP hD hS hl)
theorem v_lcmp (K : Cx p s m args meth c D E A own cc nL ret Ts) {x y : Int64} (hdg : decode cc pc = .ok (.lcmp, 1))  (k : VV p l e R s m args below meth c Q D A nL (pc + 1) (.int (lg_cmp x y) :: st) (lv) (ws)) : VV p l e R s m args below meth c Q D A nL (pc) (.long y :: .long x :: st) (lv) (ws) := fun H locs ls hP hD hS hl => W.lcmp K.1 K.2.1 hdg (k H locs ls hP hD hS hl)
theorem v_dup (K : Cx p s m args meth c D E A own cc nL ret Ts) {va : Value} (hdg : decode cc pc = .ok (.dup, 1)) (hva : va.category = 1) (k : VV p l e R s m args below meth c Q D A nL (pc + 1) (va :: va :: st) (lv) (ws)) : VV p l e R s m args below meth c Q D A nL (pc) (va :: st) (lv) (ws) := fun H locs ls hP hD hS hl => lv_dup K.1 K.2.1 hdg hva (k H locs ls hP hD hS hl)
theorem v_pop (K : Cx p s m args meth c D E A own cc nL ret Ts) {va : Value} (hdg : decode cc pc = .ok (.pop, 1)) (hva : va.category = 1) (k : VV p l e R s m args below meth c Q D A nL (pc + 1) (st) (lv) (ws)) : VV p l e R s m args below meth c Q D A nL (pc) (va :: st) (lv) (ws) := fun H locs ls hP hD hS hl => lv_pop K.1 K.2.1 hdg hva (k H locs ls hP hD hS hl)
theorem v_dup2 (K : Cx p s m args meth c D E A own cc nL ret Ts) {va vb : Value} (hdg : decode cc pc = .ok (.dup2, 1)) (hva : va.category = 1) (hvb : vb.category = 1) (k : VV p l e R s m args below meth c Q D A nL (pc + 1) (va :: vb :: va :: vb :: st) (lv) (ws)) : VV p l e R s m args below meth c Q D A nL (pc) (va :: vb :: st) (lv) (ws) := fun H locs ls hP hD hS hl => lv_dup2_11 K.1 K.2.1 hdg hva hvb (k H locs ls hP hD hS hl)
theorem v_goto (K : Cx p s m args meth c D E A own cc nL ret Ts) {off : Int} {tgt : Nat} (hdg : decode cc pc = .ok (.goto off, 3)) (ht : (pc : Int) + off = (tgt : Int)) (k : VV p l e R s m args below meth c Q D A nL (tgt) (st) (lv) (ws)) : VV p l e R s m args below meth c Q D A nL (pc) (st) (lv) (ws) := fun H locs ls hP hD hS hl => lv_goto K.1 K.2.1 hdg ht (k H locs ls hP hD hS hl)
theorem v_if_eq (K : Cx p s m args meth c D E A own cc nL ret Ts) {x : Int32} {off : Int} {tgt : Nat} (hdg : decode cc pc = .ok (.ifCond .eq off, 3)) (ht : (pc : Int) + off = (tgt : Int)) (kt : x = 0 → VV p l e R s m args below meth c Q D A nL (tgt) (st) (lv) (ws)) (kf : ¬ x = 0 → VV p l e R s m args below meth c Q D A nL (pc + 3) (st) (lv) (ws)) : VV p l e R s m args below meth c Q D A nL (pc) (.int x :: st) (lv) (ws) := fun H locs ls hP hD hS hl => lv_if_eq K.1 K.2.1 hdg ht (fun z => kt z H locs ls hP hD hS hl) (fun z => kf z H locs ls hP hD hS hl)
theorem v_if_ne (K : Cx p s m args meth c D E A own cc nL ret Ts) {x : Int32} {off : Int} {tgt : Nat} (hdg : decode cc pc = .ok (.ifCond .ne off, 3)) (ht : (pc : Int) + off = (tgt : Int)) (kt : ¬ x = 0 → VV p l e R s m args below meth c Q D A nL (tgt) (st) (lv) (ws)) (kf : x = 0 → VV p l e R s m args below meth c Q D A nL (pc + 3) (st) (lv) (ws)) : VV p l e R s m args below meth c Q D A nL (pc) (.int x :: st) (lv) (ws) := fun H locs ls hP hD hS hl => lv_if_ne K.1 K.2.1 hdg ht (fun z => kt z H locs ls hP hD hS hl) (fun z => kf z H locs ls hP hD hS hl)
theorem v_if_lt (K : Cx p s m args meth c D E A own cc nL ret Ts) {x : Int32} {off : Int} {tgt : Nat} (hdg : decode cc pc = .ok (.ifCond .lt off, 3)) (ht : (pc : Int) + off = (tgt : Int)) (kt : x < 0 → VV p l e R s m args below meth c Q D A nL (tgt) (st) (lv) (ws)) (kf : ¬ x < 0 → VV p l e R s m args below meth c Q D A nL (pc + 3) (st) (lv) (ws)) : VV p l e R s m args below meth c Q D A nL (pc) (.int x :: st) (lv) (ws) := fun H locs ls hP hD hS hl => lv_if_lt K.1 K.2.1 hdg ht (fun z => kt z H locs ls hP hD hS hl) (fun z => kf z H locs ls hP hD hS hl)
theorem v_if_ge (K : Cx p s m args meth c D E A own cc nL ret Ts) {x : Int32} {off : Int} {tgt : Nat} (hdg : decode cc pc = .ok (.ifCond .ge off, 3)) (ht : (pc : Int) + off = (tgt : Int)) (kt : 0 ≤ x → VV p l e R s m args below meth c Q D A nL (tgt) (st) (lv) (ws)) (kf : ¬ 0 ≤ x → VV p l e R s m args below meth c Q D A nL (pc + 3) (st) (lv) (ws)) : VV p l e R s m args below meth c Q D A nL (pc) (.int x :: st) (lv) (ws) := fun H locs ls hP hD hS hl => lv_if_ge K.1 K.2.1 hdg ht (fun z => kt z H locs ls hP hD hS hl) (fun z => kf z H locs ls hP hD hS hl)
theorem v_if_gt (K : Cx p s m args meth c D E A own cc nL ret Ts) {x : Int32} {off : Int} {tgt : Nat} (hdg : decode cc pc = .ok (.ifCond .gt off, 3)) (ht : (pc : Int) + off = (tgt : Int)) (kt : 0 < x → VV p l e R s m args below meth c Q D A nL (tgt) (st) (lv) (ws)) (kf : ¬ 0 < x → VV p l e R s m args below meth c Q D A nL (pc + 3) (st) (lv) (ws)) : VV p l e R s m args below meth c Q D A nL (pc) (.int x :: st) (lv) (ws) := fun H locs ls hP hD hS hl => lv_if_gt K.1 K.2.1 hdg ht (fun z => kt z H locs ls hP hD hS hl) (fun z => kf z H locs ls hP hD hS hl)
theorem v_if_le (K : Cx p s m args meth c D E A own cc nL ret Ts) {x : Int32} {off : Int} {tgt : Nat} (hdg : decode cc pc = .ok (.ifCond .le off, 3)) (ht : (pc : Int) + off = (tgt : Int)) (kt : x ≤ 0 → VV p l e R s m args below meth c Q D A nL (tgt) (st) (lv) (ws)) (kf : ¬ x ≤ 0 → VV p l e R s m args below meth c Q D A nL (pc + 3) (st) (lv) (ws)) : VV p l e R s m args below meth c Q D A nL (pc) (.int x :: st) (lv) (ws) := fun H locs ls hP hD hS hl => lv_if_le K.1 K.2.1 hdg ht (fun z => kt z H locs ls hP hD hS hl) (fun z => kf z H locs ls hP hD hS hl)
theorem v_icmp_eq (K : Cx p s m args meth c D E A own cc nL ret Ts) {x y : Int32} {off : Int} {tgt : Nat} (hdg : decode cc pc = .ok (.if_icmp .eq off, 3)) (ht : (pc : Int) + off = (tgt : Int)) (kt : x = y → VV p l e R s m args below meth c Q D A nL (tgt) (st) (lv) (ws)) (kf : ¬ x = y → VV p l e R s m args below meth c Q D A nL (pc + 3) (st) (lv) (ws)) : VV p l e R s m args below meth c Q D A nL (pc) (.int y :: .int x :: st) (lv) (ws) := fun H locs ls hP hD hS hl => lv_icmp_eq K.1 K.2.1 hdg ht (fun z => kt z H locs ls hP hD hS hl) (fun z => kf z H locs ls hP hD hS hl)
theorem v_icmp_ne (K : Cx p s m args meth c D E A own cc nL ret Ts) {x y : Int32} {off : Int} {tgt : Nat} (hdg : decode cc pc = .ok (.if_icmp .ne off, 3)) (ht : (pc : Int) + off = (tgt : Int)) (kt : ¬ x = y → VV p l e R s m args below meth c Q D A nL (tgt) (st) (lv) (ws)) (kf : x = y → VV p l e R s m args below meth c Q D A nL (pc + 3) (st) (lv) (ws)) : VV p l e R s m args below meth c Q D A nL (pc) (.int y :: .int x :: st) (lv) (ws) := fun H locs ls hP hD hS hl => lv_icmp_ne K.1 K.2.1 hdg ht (fun z => kt z H locs ls hP hD hS hl) (fun z => kf z H locs ls hP hD hS hl)
theorem v_icmp_lt (K : Cx p s m args meth c D E A own cc nL ret Ts) {x y : Int32} {off : Int} {tgt : Nat} (hdg : decode cc pc = .ok (.if_icmp .lt off, 3)) (ht : (pc : Int) + off = (tgt : Int)) (kt : x < y → VV p l e R s m args below meth c Q D A nL (tgt) (st) (lv) (ws)) (kf : ¬ x < y → VV p l e R s m args below meth c Q D A nL (pc + 3) (st) (lv) (ws)) : VV p l e R s m args below meth c Q D A nL (pc) (.int y :: .int x :: st) (lv) (ws) := fun H locs ls hP hD hS hl => lv_icmp_lt K.1 K.2.1 hdg ht (fun z => kt z H locs ls hP hD hS hl) (fun z => kf z H locs ls hP hD hS hl)
theorem v_icmp_ge (K : Cx p s m args meth c D E A own cc nL ret Ts) {x y : Int32} {off : Int} {tgt : Nat} (hdg : decode cc pc = .ok (.if_icmp .ge off, 3)) (ht : (pc : Int) + off = (tgt : Int)) (kt : y ≤ x → VV p l e R s m args below meth c Q D A nL (tgt) (st) (lv) (ws)) (kf : ¬ y ≤ x → VV p l e R s m args below meth c Q D A nL (pc + 3) (st) (lv) (ws)) : VV p l e R s m args below meth c Q D A nL (pc) (.int y :: .int x :: st) (lv) (ws) := fun H locs ls hP hD hS hl => lv_icmp_ge K.1 K.2.1 hdg ht (fun z => kt z H locs ls hP hD hS hl) (fun z => kf z H locs ls hP hD hS hl)
theorem v_icmp_gt (K : Cx p s m args meth c D E A own cc nL ret Ts) {x y : Int32} {off : Int} {tgt : Nat} (hdg : decode cc pc = .ok (.if_icmp .gt off, 3)) (ht : (pc : Int) + off = (tgt : Int)) (kt : y < x → VV p l e R s m args below meth c Q D A nL (tgt) (st) (lv) (ws)) (kf : ¬ y < x → VV p l e R s m args below meth c Q D A nL (pc + 3) (st) (lv) (ws)) : VV p l e R s m args below meth c Q D A nL (pc) (.int y :: .int x :: st) (lv) (ws) := fun H locs ls hP hD hS hl => lv_icmp_gt K.1 K.2.1 hdg ht (fun z => kt z H locs ls hP hD hS hl) (fun z => kf z H locs ls hP hD hS hl)
theorem v_icmp_le (K : Cx p s m args meth c D E A own cc nL ret Ts) {x y : Int32} {off : Int} {tgt : Nat} (hdg : decode cc pc = .ok (.if_icmp .le off, 3)) (ht : (pc : Int) + off = (tgt : Int)) (kt : x ≤ y → VV p l e R s m args below meth c Q D A nL (tgt) (st) (lv) (ws)) (kf : ¬ x ≤ y → VV p l e R s m args below meth c Q D A nL (pc + 3) (st) (lv) (ws)) : VV p l e R s m args below meth c Q D A nL (pc) (.int y :: .int x :: st) (lv) (ws) := fun H locs ls hP hD hS hl => lv_icmp_le K.1 K.2.1 hdg ht (fun z => kt z H locs ls hP hD hS hl) (fun z => kf z H locs ls hP hD hS hl)
theorem v_tableIn (K : Cx p s m args meth c D E A own cc nL ret Ts) {dflt lo hi : Int} {offs : Array Int} {len : Nat} {x : Int32} {off : Int} {tgt : Nat} (hdg : decode cc pc = .ok (.tableswitch dflt lo hi offs, len)) (h1 : ¬ x.toInt < lo) (h2 : ¬ hi < x.toInt) (ho : offs[(x.toInt - lo).toNat]? = some off) (ht : (pc : Int) + off = (tgt : Int)) (k : VV p l e R s m args below meth c Q D A nL (tgt) (st) (lv) (ws)) : VV p l e R s m args below meth c Q D A nL (pc) (.int x :: st) (lv) (ws) := fun H locs ls hP hD hS hl => lv_tableIn K.1 K.2.1 hdg h1 h2 ho ht (k H locs ls hP hD hS hl)
theorem v_tableOut (K : Cx p s m args meth c D E A own cc nL ret Ts) {dflt lo hi : Int} {offs : Array Int} {len : Nat} {x : Int32} {tgt : Nat} (hdg : decode cc pc = .ok (.tableswitch dflt lo hi offs, len)) (ho : x.toInt < lo ∨ hi < x.toInt) (ht : (pc : Int) + dflt = (tgt : Int)) (k : VV p l e R s m args below meth c Q D A nL (tgt) (st) (lv) (ws)) : VV p l e R s m args below meth c Q D A nL (pc) (.int x :: st) (lv) (ws) := fun H locs ls hP hD hS hl => lv_tableOut K.1 K.2.1 hdg ho ht (k H locs ls hP hD hS hl)
theorem v_lookup (K : Cx p s m args meth c D E A own cc nL ret Ts) {dflt : Int} {ps : Array (Int × Int)} {len : Nat} {x : Int32} {off : Int} {tgt : Nat} (hdg : decode cc pc = .ok (.lookupswitch dflt ps, len)) (hp : (ps.toList.zip (ps.toList.drop 1)).all (fun (a, next) => a.1 < next.1) = true) (ho : Op.lookupswitch.offset ps.toList dflt x.toInt = off) (ht : (pc : Int) + off = (tgt : Int)) (k : VV p l e R s m args below meth c Q D A nL (tgt) (st) (lv) (ws)) : VV p l e R s m args below meth c Q D A nL (pc) (.int x :: st) (lv) (ws) := fun H locs ls hP hD hS hl => lv_lookup K.1 K.2.1 hdg hp ho ht (k H locs ls hP hD hS hl)
/-- a field's link: of class number ci, place j -/
def FLk (own : String) (index ci j : Nat) : Prop := ∃ (C : String) (T : u_T) (N : Nat) (ref : String), vwCl[ci]? = some (C, T, N) ∧ (∀ w ∈ u_ws C T N, w ∈ wsL_law) ∧ j < N ∧ Cond.fieldLink own index ref (T j).2.1 (T j).2.2.1 ∈ wsL_law ∧ ref = (T j).1
def FLn (own : String) (index ci j : Nat) : Prop := ∃ (C : String) (T : u_T) (N : Nat) (ref host : String), vwCl[ci]? = some (C, T, N) ∧ (∀ w ∈ u_ws C T N, w ∈ wsL_law) ∧ j < N ∧ (own, index, ref, (T j).2.1, (T j).2.2.1, host) ∈ nF ∧ ref = (T j).1
/-- a written field of whole numbers -/
def FLp (own : String) (index ci j : Nat) (ty : FieldType) : Prop := ∃ (C : String) (T : u_T) (N : Nat) (ref : String) (tys : Nat → FieldType), vwCl[ci]? = some (C, T, N) ∧ (∀ w ∈ u_ws C T N, w ∈ wsL_law) ∧ j < N ∧ Cond.fieldLink own index ref (T j).2.1 (T j).2.2.1 ∈ wsL_law ∧ ref = (T j).1 ∧ (∀ k, k < N → parseFieldDescriptor (T k).2.2.1 = some (tys k)) ∧ (∀ a, a < N → ∀ b, b < N → a ≠ b → (T a).2.1 ≠ (T b).2.1) ∧ (T j).2.2.2 = false ∧ parseFieldDescriptor (T j).2.2.1 = some ty
def FLq (own : String) (index ci j : Nat) (ty : FieldType) : Prop := ∃ (C : String) (T : u_T) (N : Nat) (ref host : String) (tys : Nat → FieldType), vwCl[ci]? = some (C, T, N) ∧ (∀ w ∈ u_ws C T N, w ∈ wsL_law) ∧ j < N ∧ (own, index, ref, (T j).2.1, (T j).2.2.1, host) ∈ nF ∧ ref = (T j).1 ∧ (∀ k, k < N → parseFieldDescriptor (T k).2.2.1 = some (tys k)) ∧ (∀ a, a < N → ∀ b, b < N → a ≠ b → (T a).2.1 ≠ (T b).2.1) ∧ (T j).2.2.2 = false ∧ parseFieldDescriptor (T j).2.2.1 = some ty
theorem v_get (K : Cx p s m args meth c D E A own cc nL ret Ts) {G : Gs} {o k ci j index : Nat} {fs : List Value} {v : Value} (F : FLk own index ci j) (hdg : decode cc pc = .ok (.getfield index, 3)) (hm : (o, k) ∈ eW E) (hc : cel E o k (G o k) = .inr (ci, fs)) (hv : fs[j]? = some v) (kk : VV p l e R s m args below meth c Q D A nL (pc + 3) (v :: st) (lv) (wl E G)) : VV p l e R s m args below meth c Q D A nL (pc) (.ref (eA E o k) :: st) (lv) (wl E G) := by
  intro H locs ls hP hD hS hl
  obtain ⟨C, T, N, ref, g1, g2, g3, g4, rfl⟩ := F
  obtain ⟨q0, hq0⟩ := wl_at G hm
  rw [hc] at hq0
  exact va_get K.1 K.2.1 K.2.2.2.2.1 (fun w h => K.2.2.2.2.2.1 w (g2 w h)) K.2.2.2.1 K.2.2.2.2.2.2.1.1 hP q0 hq0 g1 j g3 (K.word g4) (fun _ h9 => h9) hv hdg (kk H locs ls hP hD hS hl)
theorem v_getN (K : Cx p s m args meth c D E A own cc nL ret Ts) {G : Gs} {o k ci j index : Nat} {fs : List Value} {v : Value} (F : FLn own index ci j) (hdg : decode cc pc = .ok (.getfield index, 3)) (hm : (o, k) ∈ eW E) (hc : cel E o k (G o k) = .inr (ci, fs)) (hv : fs[j]? = some v) (kk : VV p l e R s m args below meth c Q D A nL (pc + 3) (v :: st) (lv) (wl E G)) : VV p l e R s m args below meth c Q D A nL (pc) (.ref (eA E o k) :: st) (lv) (wl E G) := by
  intro H locs ls hP hD hS hl
  obtain ⟨C, T, N, ref, host, g1, g2, g3, g4, rfl⟩ := F
  obtain ⟨q0, hq0⟩ := wl_at G hm
  rw [hc] at hq0
  exact va_getN K.1 K.2.1 K.2.2.2.2.1 (fun w h => K.2.2.2.2.2.1 w (g2 w h)) K.2.2.2.1 K.2.2.2.2.2.2.1.1 hP q0 hq0 g1 j g3 (va_Nw.use rfl (K.2.2.2.2.2.2.1.2.1 _ g4)) (fun _ h9 => h9) hv hdg (kk H locs ls hP hD hS hl)
theorem v_put (K : Cx p s m args meth c D E A own cc nL ret Ts) {G : Gs} {o k ci j index : Nat} {fs : List Value} {x : Int32} {ty : FieldType} (f' : FN) (F : FLp own index ci j ty) (hdg : decode cc pc = .ok (.putfield index, 3)) (hm : (o, k) ∈ eW E) (hc : cel E o k (G o k) = .inr (ci, fs)) (hl0 : j < fs.length) (hf' : cel E o k f' = .inr (ci, fs.set j (.int x))) (hn : narrow ty (.int x) = .int x) (hfit : fits ty (.int x) = true) (kk : VV p l e R s m args below meth c Q D A nL (pc + 3) (st) (lv) (wl E (va_up G o (va_up (G o) k f')))) : VV p l e R s m args below meth c Q D A nL (pc) (.int x :: .ref (eA E o k) :: st) (lv) (wl E G) := by
  intro H locs ls hP hD hS hl
  obtain ⟨C, T, N, ref, tys, g1, g2, g3, g4, rfl, g6, g7, g8, g9⟩ := F
  obtain ⟨q0, hq0⟩ := wl_at G hm
  have hq1 := hq0
  rw [hc] at hq0
  refine va_put K.1 K.2.1 K.2.2.2.2.1 (fun w h => K.2.2.2.2.2.1 w (g2 w h)) tys g6 g7 K.2.2.2.1 K.2.2.2.2.2.2.1.1 hP hD hS q0 hq0 g1 j g3 (K.word g4) (fun _ h9 => h9) g8 g9 hn hfit hl0 hdg (fun H1 locs1 hP1 hD1 hS1 => ?_)
  have hset := wl_set f' hD hm hq1
  rw [hf'] at hset
  rw [hset] at hP1 hD1
  exact kk H1 locs1 ls hP1 hD1 hS1 hl
theorem v_putN (K : Cx p s m args meth c D E A own cc nL ret Ts) {G : Gs} {o k ci j index : Nat} {fs : List Value} {x : Int32} {ty : FieldType} (f' : FN) (F : FLq own index ci j ty) (hdg : decode cc pc = .ok (.putfield index, 3)) (hm : (o, k) ∈ eW E) (hc : cel E o k (G o k) = .inr (ci, fs)) (hl0 : j < fs.length) (hf' : cel E o k f' = .inr (ci, fs.set j (.int x))) (hn : narrow ty (.int x) = .int x) (hfit : fits ty (.int x) = true) (kk : VV p l e R s m args below meth c Q D A nL (pc + 3) (st) (lv) (wl E (va_up G o (va_up (G o) k f')))) : VV p l e R s m args below meth c Q D A nL (pc) (.int x :: .ref (eA E o k) :: st) (lv) (wl E G) := by
  intro H locs ls hP hD hS hl
  obtain ⟨C, T, N, ref, host, tys, g1, g2, g3, g4, rfl, g6, g7, g8, g9⟩ := F
  obtain ⟨q0, hq0⟩ := wl_at G hm
  have hq1 := hq0
  rw [hc] at hq0
  refine va_putN K.1 K.2.1 K.2.2.2.2.1 (fun w h => K.2.2.2.2.2.1 w (g2 w h)) tys g6 g7 K.2.2.2.1 K.2.2.2.2.2.2.1.1 hP hD hS q0 hq0 g1 j g3 (va_Nw.use rfl (K.2.2.2.2.2.2.1.2.1 _ g4)) (fun _ h9 => h9) g8 g9 hn hfit hl0 hdg (fun H1 locs1 hP1 hD1 hS1 => ?_)
  have hset := wl_set f' hD hm hq1
  rw [hf'] at hset
  rw [hset] at hP1 hD1
  exact kk H1 locs1 ls hP1 hD1 hS1 hl
theorem v_iald (K : Cx p s m args meth c D E A own cc nL ret Ts) {G : Gs} {o k n : Nat} {f : FN} {i : Int32} (hdg : decode cc pc = .ok (.iaload, 1)) (hm : (o, k) ∈ eW E) (hc : cel E o k (G o k) = .inl (eI E, n, .inl f)) (hin : vp_in i n) (kk : VV p l e R s m args below meth c Q D A nL (pc + 1) (.int (f i.toNatClampNeg) :: st) (lv) (wl E G)) : VV p l e R s m args below meth c Q D A nL (pc) (.int i :: .ref (eA E o k) :: st) (lv) (wl E G) := by
  intro H locs ls hP hD hS hl
  obtain ⟨q0, hq0⟩ := wl_at G hm
  rw [hc] at hq0
  exact va_iald K.1 K.2.1 K.2.2.2.2.2.2.1.1 hP q0 0 hq0 rfl hin hdg (kk H locs ls hP hD hS hl)
theorem v_zald (K : Cx p s m args meth c D E A own cc nL ret Ts) {G : Gs} {o k n : Nat} {f : FN} {i : Int32} (hdg : decode cc pc = .ok (.baload, 1)) (hm : (o, k) ∈ eW E) (hc : cel E o k (G o k) = .inl (eZ E, n, .inl f)) (hin : vp_in i n) (kk : VV p l e R s m args below meth c Q D A nL (pc + 1) (.int (f i.toNatClampNeg) :: st) (lv) (wl E G)) : VV p l e R s m args below meth c Q D A nL (pc) (.int i :: .ref (eA E o k) :: st) (lv) (wl E G) := by
  intro H locs ls hP hD hS hl
  obtain ⟨q0, hq0⟩ := wl_at G hm
  rw [hc] at hq0
  exact va_zald K.1 K.2.1 K.2.2.2.2.2.2.1.1 hP q0 1 hq0 rfl hin hdg (kk H locs ls hP hD hS hl)
theorem v_iast (K : Cx p s m args meth c D E A own cc nL ret Ts) {G : Gs} {o k n : Nat} {f f' : FN} {i x : Int32} (hdg : decode cc pc = .ok (.iastore, 1)) (hm : (o, k) ∈ eW E) (hc : cel E o k (G o k) = .inl (eI E, n, .inl f)) (hin : vp_in i n) (hf' : cel E o k f' = .inl (eI E, n, .inl (upd f i.toNatClampNeg x))) (kk : VV p l e R s m args below meth c Q D A nL (pc + 1) (st) (lv) (wl E (va_up G o (va_up (G o) k f')))) : VV p l e R s m args below meth c Q D A nL (pc) (.int x :: .int i :: .ref (eA E o k) :: st) (lv) (wl E G) := by
  intro H locs ls hP hD hS hl
  obtain ⟨q0, hq0⟩ := wl_at G hm
  have hq1 := hq0
  rw [hc] at hq0
  refine va_iast K.1 K.2.1 K.2.2.2.2.2.2.1.1 hP hD hS q0 0 hq0 rfl hin hdg (fun H1 locs1 hP1 hD1 hS1 => ?_)
  have hset := wl_set f' hD hm hq1
  rw [hf'] at hset
  rw [hset] at hP1 hD1
  exact kk H1 locs1 ls hP1 hD1 hS1 hl
theorem v_alen (K : Cx p s m args meth c D E A own cc nL ret Ts) {G : Gs} {o k n : Nat} {f : FN} {v : Int32} (hdg : decode cc pc = .ok (.arraylength, 1)) (hm : (o, k) ∈ eW E) (hc : cel E o k (G o k) = .inl (eI E, n, .inl f)) (hv : Int32.ofNat n = v) (kk : VV p l e R s m args below meth c Q D A nL (pc + 1) (.int v :: st) (lv) (wl E G)) : VV p l e R s m args below meth c Q D A nL (pc) (.ref (eA E o k) :: st) (lv) (wl E G) := by
  intro H locs ls hP hD hS hl
  obtain ⟨q0, hq0⟩ := wl_at G hm
  rw [hc] at hq0
  exact va_alen K.1 K.2.1 K.2.2.2.2.2.2.1.1 hP q0 0 hq0 rfl hv hdg (kk H locs ls hP hD hS hl)
/-- a call site: its words -/
def MLk (own : String) (index : Nat) (y : MethodName) (bytes : ByteArray) (maxL : Nat) (ret : Option FieldType) (n : Nat) : Prop := Cond.methodLink own index y ∈ wsL_law ∧ Cond.instanceMethod y ∈ wsL_law ∧ Cond.selects y.cls y y ∈ wsL_law ∧ Cond.initialized y.cls ∈ wsL_law ∧ Cond.code y bytes maxL ret ∈ wsL_law ∧ (y.cls ≠ "java/lang/invoke/MethodHandle" ∧ y.cls ≠ "java/lang/invoke/VarHandle" ∧ (parseMethodDescriptor y.desc).map (fun d => d.parameters.length) = some n)
def MSk (own : String) (index : Nat) (y : MethodName) (bytes : ByteArray) (maxL : Nat) (ret : Option FieldType) (n : Nat) : Prop := Cond.methodLink own index y ∈ wsL_law ∧ Cond.static y ∈ wsL_law ∧ Cond.initialized y.cls ∈ wsL_law ∧ Cond.code y bytes maxL ret ∈ wsL_law ∧ (y.cls ≠ "java/lang/invoke/MethodHandle" ∧ y.cls ≠ "java/lang/invoke/VarHandle" ∧ (parseMethodDescriptor y.desc).map (fun d => d.parameters.length) = some n)
def MNk (own : String) (index : Nat) (y : MethodName) (bytes : ByteArray) (maxL : Nat) (ret : Option FieldType) (n : Nat) : Prop := (∃ host, (own, index, y, host) ∈ nM) ∧ Cond.static y ∈ wsL_law ∧ Cond.initialized y.cls ∈ wsL_law ∧ Cond.code y bytes maxL ret ∈ wsL_law ∧ (y.cls ≠ "java/lang/invoke/MethodHandle" ∧ y.cls ≠ "java/lang/invoke/VarHandle" ∧ (parseMethodDescriptor y.desc).map (fun d => d.parameters.length) = some n)
theorem Cx.goodCode (K : Cx p s m args meth c D E A own cc nL ret Ts) {y : MethodName} {bytes : ByteArray} {maxL : Nat} {ret : Option FieldType} (h : Cond.code y bytes maxL ret ∈ wsL_law) : GoodIn Ts (.code y bytes maxL ret :: wsL_law) := by
  intro w hw
  rcases List.mem_cons.mp hw with rfl | hw
  · exact ⟨K.2.2.2.2.2.1 _ h, wsL_good _ h⟩
  · exact ⟨K.2.2.2.2.2.1 _ hw, wsL_good _ hw⟩
theorem CP.blind {D : va_G} {E : En} {A : Nat → Prop} {ws0 : va_W} {av : List Value} : FrameBlind (va_Pc av (CP D E A ws0)) := fun a U g mk h => ⟨h.1, h.2.1.blind, h.2.2⟩
theorem v_run (K : Cx p s m args meth c D E A own cc nL ret Ts) {rest st0 : List Value} {ws1 : va_W} {rv : Option Value} (a : Array Value)
    (hr : ∀ (H : Heap) (locs : List Loc) (ls : Array Slot), va_P D vwCl ws H → va_D A ws → va_S A s.heap H locs → lv_has ls nL lv → va_Run p l e R s m args below meth c H locs 0 0 0 0 (F0 m pc ls st0) rest (CQ D A rv ws1 a) A)
    (kk : VV p l e R s m args below meth c Q D A nL (pc + 3) (rv.toList ++ rest) (lv) (ws1)) : VV p l e R s m args below meth c Q D A nL (pc) (st0) (lv) (ws) := by
  intro H locs ls hP hD hS hl T hT X
  obtain ⟨v, st₀, t, T', L, h0, X', hL, e1, e2, ⟨⟨hv, hP1, hD1⟩, hz, hk⟩, stp⟩ := hr H locs ls hP hD hS hl T hT X
  cases hv
  rw [h0] at hz hk
  obtain ⟨t2, a1, b1⟩ := kk T'.heap (locs ++ L) ls (by rw [e1]; exact hP1) hD1
    ⟨Nat.le_trans hS.1 (by rw [e1]; exact hz), fun q h1 h2 => by rw [e1, hk q (Nat.lt_of_lt_of_le h1 hS.1) h2]; exact hS.2.1 q h1 h2, fun q hq => by
      rcases List.mem_append.mp hq with h | h
      · exact hS.2.2 q h
      · exact hL q h⟩ hl T' rfl X'
  exact ⟨t2, stp t2 a1, b1⟩
theorem v_callV (K : Cx p s m args meth c D E A own cc nL ret Ts) {y : MethodName} {bytes : ByteArray} {maxL : Nat} {rt : Option FieldType} {rm : Room} {As rest st0 : List Value} {ws1 : va_W} {rv : Option Value} {b n index q0 ci : Nat} {fs : List Value} {r : vw_C}
    (M : MLk own index y bytes maxL rt n) (hdg : decode cc pc = .ok (.invokevirtual index, 3)) (hM : Ctr l D E A y bytes maxL rt rm (.ref b :: As) ws rv ws1) (hq0 : ws[q0]? = some (b, .inr (ci, fs))) (hci : vwCl[ci]? = some r) (hrc : r.1 = y.cls)
    (hst : st0 = As.reverse ++ .ref b :: rest) (hn : As.length = n) (hcat : (rest.map fun v => v.category).sum ≤ 8) (hr0 : rm.cells = 0 ∧ rm.slots = 0) (hR : rm.frames + 1 ≤ R.frames ∧ 8 + (maxL + 11) + rm.locals ≤ R.locals)
    (kk : VV p l e R s m args below meth c Q D A nL (pc + 3) (rv.toList ++ rest) (lv) (ws1)) : VV p l e R s m args below meth c Q D A nL (pc) (st0) (lv) (ws) := by
  subst hst
  obtain ⟨m1, m2, m3, m4, m5, m6, m7, m8⟩ := M
  refine v_run K (Value.ref b :: As).toArray (fun H locs ls hP hD hS hl => ?_) kk
  exact va_runV (As := As) (rest := rest) (n := n) ⟨K.1, K.2.1, K.2.2.1, K.2.2.2.1, K.2.2.2.2.1⟩ hM
    ⟨callB_of n K.2.2.2.2.1 (K.goodCode m5) rfl hr0.1 hr0.2 (K.word m4) (K.word m1) ⟨m6, m7, m8⟩ hR, K.word m2, K.word m3⟩
    ⟨CP.blind, by rw [← hrc]; exact va_recv K.2.2.2.2.2.2.1.1 hP hci hq0, fun U hU hW => ⟨rfl, K.2.2.2.2.2.2.1.go hS hU hW, by rw [hU]; exact hP, hD⟩⟩ rfl hn hl.1 rfl (lv_room hcat) hdg ⟨Nat.zero_le _, Nat.zero_le _⟩
theorem v_callS (K : Cx p s m args meth c D E A own cc nL ret Ts) {y : MethodName} {bytes : ByteArray} {maxL : Nat} {rt : Option FieldType} {rm : Room} {As rest st0 : List Value} {ws1 : va_W} {rv : Option Value} {n index : Nat}
    (M : MSk own index y bytes maxL rt n) (hdg : decode cc pc = .ok (.invokestatic index, 3)) (hM : Ctr l D E A y bytes maxL rt rm As ws rv ws1)
    (hst : st0 = As.reverse ++ rest) (hn : As.length = n) (hcat : (rest.map fun v => v.category).sum ≤ 8) (hr0 : rm.cells = 0 ∧ rm.slots = 0) (hR : rm.frames + 1 ≤ R.frames ∧ 8 + (maxL + 11) + rm.locals ≤ R.locals)
    (kk : VV p l e R s m args below meth c Q D A nL (pc + 3) (rv.toList ++ rest) (lv) (ws1)) : VV p l e R s m args below meth c Q D A nL (pc) (st0) (lv) (ws) := by
  subst hst
  obtain ⟨m1, m2, m4, m5, m6, m7, m8⟩ := M
  refine v_run K As.toArray (fun H locs ls hP hD hS hl => ?_) kk
  exact va_runS (As := As) (rest := rest) (n := n) ⟨K.1, K.2.1, K.2.2.1, K.2.2.2.1, K.2.2.2.2.1⟩ hM
    ⟨callB_of n K.2.2.2.2.1 (K.goodCode m5) rfl hr0.1 hr0.2 (K.word m4) (K.word m1) ⟨m6, m7, m8⟩ hR, K.word m2⟩
    ⟨CP.blind, fun U hU hW => ⟨rfl, K.2.2.2.2.2.2.1.go hS hU hW, by rw [hU]; exact hP, hD⟩⟩ rfl hn hl.1 rfl (lv_room hcat) hdg ⟨Nat.zero_le _, Nat.zero_le _⟩
theorem v_callSN (K : Cx p s m args meth c D E A own cc nL ret Ts) {y : MethodName} {bytes : ByteArray} {maxL : Nat} {rt : Option FieldType} {rm : Room} {As rest st0 : List Value} {ws1 : va_W} {rv : Option Value} {n index : Nat}
    (M : MNk own index y bytes maxL rt n) (hdg : decode cc pc = .ok (.invokestatic index, 3)) (hM : Ctr l D E A y bytes maxL rt rm As ws rv ws1)
    (hst : st0 = As.reverse ++ rest) (hn : As.length = n) (hcat : (rest.map fun v => v.category).sum ≤ 8) (hr0 : rm.cells = 0 ∧ rm.slots = 0) (hR : rm.frames + 1 ≤ R.frames ∧ 8 + (maxL + 11) + rm.locals ≤ R.locals)
    (kk : VV p l e R s m args below meth c Q D A nL (pc + 3) (rv.toList ++ rest) (lv) (ws1)) : VV p l e R s m args below meth c Q D A nL (pc) (st0) (lv) (ws) := by
  subst hst
  obtain ⟨⟨host, m1⟩, m2, m4, m5, m6, m7, m8⟩ := M
  refine v_run K As.toArray (fun H locs ls hP hD hS hl => ?_) kk
  exact va_runSN (As := As) (rest := rest) (n := n) ⟨K.1, K.2.1, K.2.2.1, K.2.2.2.1, K.2.2.2.2.1⟩ hM
    ⟨va_cnB n K.2.2.2.2.1 (K.goodCode m5) rfl hr0.1 hr0.2 (K.2.2.2.2.2.2.1.2.2.1 _ m1) (K.word m4) ⟨m6, m7, m8⟩ hR, K.word m2, trivial⟩
    ⟨CP.blind, fun U hU hW => ⟨rfl, K.2.2.2.2.2.2.1.go hS hU hW, by rw [hU]; exact hP, hD⟩⟩ rfl hn hl.1 rfl (lv_room hcat) hdg ⟨Nat.zero_le _, Nat.zero_le _⟩
theorem v_iret (K : Cx p s m args meth c D E A own cc nL ret Ts) {v : Int32} {ws1 : va_W} {rv : Option Value} (hret : ret = some .int) (hdg : decode cc pc = .ok (.ireturn, 1)) (h1 : rv = some (.int v)) (h2 : ws = ws1) : VV p l e R s m args below meth c (MQ below (CQ D A rv ws1) args s 0 0 A) D A nL pc ([.int v]) lv ws := by
  subst h1; subst h2
  intro H locs ls hP hD hS hl
  exact W.iret (v := v) K.1 K.2.1 (by rw [K.2.2.2.2.2.2.2.1]; exact hret) (fun t ht hW => ⟨⟨rfl, by rw [ht]; exact hP, hD⟩, hS.F ht⟩) hS.2.2 hdg K.2.2.2.2.2.2.2.2
theorem v_zret (K : Cx p s m args meth c D E A own cc nL ret Ts) {v : Int32} {ws1 : va_W} {rv : Option Value} (hret : ret = some .boolean) (hdg : decode cc pc = .ok (.ireturn, 1)) (hv : v = 0 ∨ v = 1) (h1 : rv = some (.int v)) (h2 : ws = ws1) : VV p l e R s m args below meth c (MQ below (CQ D A rv ws1) args s 0 0 A) D A nL pc ([.int v]) lv ws := by
  subst h1; subst h2
  intro H locs ls hP hD hS hl
  refine W.zret (v := v) (ty := .boolean) K.1 K.2.1 (by rw [K.2.2.2.2.2.2.2.1]; exact hret) ?_ (fun t ht hW => ⟨⟨rfl, by rw [ht]; exact hP, hD⟩, hS.F ht⟩) hS.2.2 hdg K.2.2.2.2.2.2.2.2
  rcases hv with rfl | rfl <;> rfl
theorem v_vret (K : Cx p s m args meth c D E A own cc nL ret Ts) {ws1 : va_W} {rv : Option Value} (hret : ret = none) (hdg : decode cc pc = .ok (.return_, 1)) (h1 : rv = none) (h2 : ws = ws1) : VV p l e R s m args below meth c (MQ below (CQ D A rv ws1) args s 0 0 A) D A nL pc ([]) lv ws := by
  subst h1; subst h2
  intro H locs ls hP hD hS hl
  exact W.vret K.1 K.2.1 (by rw [K.2.2.2.2.2.2.2.1]; exact hret) (fun t ht hW => ⟨⟨rfl, by rw [ht]; exact hP, hD⟩, hS.F ht⟩) hS.2.2 hdg K.2.2.2.2.2.2.2.2
def rmD (d : Nat) : Room := { frames := d, cells := 0, slots := 0, locals := 30 * d }
end
section
variable {p : Program} {l : Launch} {e : Env} {R : Room} {s : State} {m : MethodId} {args : Array Value} {below : List Frame} {meth : Method} {c : Code} {Q : State → Prop} {D : va_G} {E : En} {A : Nat → Prop} {own : String} {cc : ByteArray} {nL : Nat} {ret : Option FieldType} {Ts : List Cond} {pc : Nat} {st : List Value} {lv lv' : List (Nat × Value)} {ws : va_W}
/-! one cell's one slot is written -/
def sp (S : St) (k j : Nat) (x : Int32) : St := va_up S k (upd (S k) j x)
theorem sp_eq (S : St) (k j : Nat) (x : Int32) : va_up S k (upd (S k) j x) = sp S k j x := rfl
theorem v_lv (h : lv = lv') (k : VV p l e R s m args below meth c Q D A nL (pc) (st) (lv') (ws)) : VV p l e R s m args below meth c Q D A nL (pc) (st) (lv) (ws) := by subst h; exact k
theorem v_lsub (ks : List Nat) (h : lv_pick lv ks = lv') (k : VV p l e R s m args below meth c Q D A nL (pc) (st) (lv') (ws)) : VV p l e R s m args below meth c Q D A nL (pc) (st) (lv) (ws) := fun H locs ls hP hD hS hl => k H locs ls hP hD hS (lv_sub hl ks h)
theorem g_get (K : Cx p s m args meth c D E A own cc nL ret Ts) {G : Gs} {S : St} {o k ci j index : Nat} {fs : List Value} {v : Value} (F : FLk own index ci j) (hdg : decode cc pc = .ok (.getfield index, 3)) (hm : (o, k) ∈ eW E) (hc : cel E o k (S k) = .inr (ci, fs)) (hv : fs[j]? = some v) (kk : VV p l e R s m args below meth c Q D A nL (pc + 3) (v :: st) (lv) (wl E (va_up G o S))) : VV p l e R s m args below meth c Q D A nL (pc) (.ref (eA E o k) :: st) (lv) (wl E (va_up G o S)) :=
  v_get K F hdg hm (by rw [up_self]; exact hc) hv kk
theorem g_getN (K : Cx p s m args meth c D E A own cc nL ret Ts) {G : Gs} {S : St} {o k ci j index : Nat} {fs : List Value} {v : Value} (F : FLn own index ci j) (hdg : decode cc pc = .ok (.getfield index, 3)) (hm : (o, k) ∈ eW E) (hc : cel E o k (S k) = .inr (ci, fs)) (hv : fs[j]? = some v) (kk : VV p l e R s m args below meth c Q D A nL (pc + 3) (v :: st) (lv) (wl E (va_up G o S))) : VV p l e R s m args below meth c Q D A nL (pc) (.ref (eA E o k) :: st) (lv) (wl E (va_up G o S)) :=
  v_getN K F hdg hm (by rw [up_self]; exact hc) hv kk
theorem g_put (K : Cx p s m args meth c D E A own cc nL ret Ts) {G : Gs} {S S1 : St} {o k ci j index : Nat} {fs : List Value} {x : Int32} {ty : FieldType} (F : FLp own index ci j ty) (hdg : decode cc pc = .ok (.putfield index, 3)) (hm : (o, k) ∈ eW E) (hc : cel E o k (S k) = .inr (ci, fs)) (i : Nat) (hl0 : j < fs.length) (hf' : cel E o k (upd (S k) i x) = .inr (ci, fs.set j (.int x))) (hn : narrow ty (.int x) = .int x) (hfit : fits ty (.int x) = true) (hS1 : S1 = sp S k i x) (kk : VV p l e R s m args below meth c Q D A nL (pc + 3) (st) (lv) (wl E (va_up G o S1))) : VV p l e R s m args below meth c Q D A nL (pc) (.int x :: .ref (eA E o k) :: st) (lv) (wl E (va_up G o S)) := by
  subst hS1
  refine v_put K (upd (S k) i x) F hdg hm (by rw [up_self]; exact hc) hl0 hf' hn hfit ?_
  rw [up_self, up_up]
  exact kk
theorem g_putN (K : Cx p s m args meth c D E A own cc nL ret Ts) {G : Gs} {S S1 : St} {o k ci j index : Nat} {fs : List Value} {x : Int32} {ty : FieldType} (F : FLq own index ci j ty) (hdg : decode cc pc = .ok (.putfield index, 3)) (hm : (o, k) ∈ eW E) (hc : cel E o k (S k) = .inr (ci, fs)) (i : Nat) (hl0 : j < fs.length) (hf' : cel E o k (upd (S k) i x) = .inr (ci, fs.set j (.int x))) (hn : narrow ty (.int x) = .int x) (hfit : fits ty (.int x) = true) (hS1 : S1 = sp S k i x) (kk : VV p l e R s m args below meth c Q D A nL (pc + 3) (st) (lv) (wl E (va_up G o S1))) : VV p l e R s m args below meth c Q D A nL (pc) (.int x :: .ref (eA E o k) :: st) (lv) (wl E (va_up G o S)) := by
  subst hS1
  refine v_putN K (upd (S k) i x) F hdg hm (by rw [up_self]; exact hc) hl0 hf' hn hfit ?_
  rw [up_self, up_up]
  exact kk
theorem g_iald (K : Cx p s m args meth c D E A own cc nL ret Ts) {G : Gs} {S : St} {o k n : Nat} {i : Int32} (hdg : decode cc pc = .ok (.iaload, 1)) (hm : (o, k) ∈ eW E) (hc : cel E o k (S k) = .inl (eI E, n, .inl (S k))) (hin : vp_in i n) (kk : VV p l e R s m args below meth c Q D A nL (pc + 1) (.int (S k i.toNatClampNeg) :: st) (lv) (wl E (va_up G o S))) : VV p l e R s m args below meth c Q D A nL (pc) (.int i :: .ref (eA E o k) :: st) (lv) (wl E (va_up G o S)) :=
  v_iald K hdg hm (by rw [up_self]; exact hc) hin kk
theorem g_zald (K : Cx p s m args meth c D E A own cc nL ret Ts) {G : Gs} {S : St} {o k n : Nat} {i : Int32} (hdg : decode cc pc = .ok (.baload, 1)) (hm : (o, k) ∈ eW E) (hc : cel E o k (S k) = .inl (eZ E, n, .inl (S k))) (hin : vp_in i n) (kk : VV p l e R s m args below meth c Q D A nL (pc + 1) (.int (S k i.toNatClampNeg) :: st) (lv) (wl E (va_up G o S))) : VV p l e R s m args below meth c Q D A nL (pc) (.int i :: .ref (eA E o k) :: st) (lv) (wl E (va_up G o S)) :=
  v_zald K hdg hm (by rw [up_self]; exact hc) hin kk
theorem g_iast (K : Cx p s m args meth c D E A own cc nL ret Ts) {G : Gs} {S S1 : St} {o k n : Nat} {i x : Int32} (hdg : decode cc pc = .ok (.iastore, 1)) (hm : (o, k) ∈ eW E) (hc : ∀ f, cel E o k f = .inl (eI E, n, .inl f)) (hin : vp_in i n) (hS1 : S1 = sp S k i.toNatClampNeg x) (kk : VV p l e R s m args below meth c Q D A nL (pc + 1) (st) (lv) (wl E (va_up G o S1))) : VV p l e R s m args below meth c Q D A nL (pc) (.int x :: .int i :: .ref (eA E o k) :: st) (lv) (wl E (va_up G o S)) := by
  subst hS1
  refine v_iast K hdg hm (by rw [up_self]; exact hc (S k)) hin (hc _) ?_
  rw [up_self, up_up]
  exact kk
theorem g_alen (K : Cx p s m args meth c D E A own cc nL ret Ts) {G : Gs} {S : St} {o k n : Nat} {v : Int32} (hdg : decode cc pc = .ok (.arraylength, 1)) (hm : (o, k) ∈ eW E) (hc : ∀ f, cel E o k f = .inl (eI E, n, .inl f)) (hv : Int32.ofNat n = v) (kk : VV p l e R s m args below meth c Q D A nL (pc + 1) (.int v :: st) (lv) (wl E (va_up G o S))) : VV p l e R s m args below meth c Q D A nL (pc) (.ref (eA E o k) :: st) (lv) (wl E (va_up G o S)) :=
  v_alen K hdg hm (hc _) hv kk
theorem v_callW (K : Cx p s m args meth c D E A own cc nL ret Ts) {y : MethodName} {bytes : ByteArray} {maxL : Nat} {rt : Option FieldType} {rm : Room} {As rest st0 : List Value} {G : Gs} {ws1 : va_W} {rv : Option Value} {o k n index ci : Nat} {fs : List Value} {r : vw_C}
    (M : MLk own index y bytes maxL rt n) (hdg : decode cc pc = .ok (.invokevirtual index, 3)) (hM : Ctr l D E A y bytes maxL rt rm (.ref (eA E o k) :: As) (wl E G) rv ws1) (hm : (o, k) ∈ eW E) (hc : cel E o k (G o k) = .inr (ci, fs)) (hci : vwCl[ci]? = some r) (hrc : r.1 = y.cls)
    (hst : st0 = As.reverse ++ .ref (eA E o k) :: rest) (hn : As.length = n) (hcat : (rest.map fun v => v.category).sum ≤ 8) (hr0 : rm.cells = 0 ∧ rm.slots = 0) (hR : rm.frames + 1 ≤ R.frames ∧ 8 + (maxL + 11) + rm.locals ≤ R.locals)
    (kk : VV p l e R s m args below meth c Q D A nL (pc + 3) (rv.toList ++ rest) (lv) (ws1)) : VV p l e R s m args below meth c Q D A nL (pc) (st0) (lv) (wl E G) := by
  obtain ⟨q0, hq0⟩ := wl_at G hm
  rw [hc] at hq0
  exact v_callV K M hdg hM hq0 hci hrc hst hn hcat hr0 hR kk
theorem Ctr.gid {y : MethodName} {bytes : ByteArray} {maxL : Nat} {rt : Option FieldType} {rm : Room} {av : List Value} {G : Gs} {o : Nat} {rv : Option Value} {ws1 : va_W} (h : Ctr l D E A y bytes maxL rt rm av (wl E (va_up G o (G o))) rv ws1) : Ctr l D E A y bytes maxL rt rm av (wl E G) rv ws1 := by
  rw [up_id] at h
  exact h
/-! a pure function's steps -/
def jn {κ β : Type} (body : κ → β) (k : κ) : β := body k
def bnd {α β : Type} (x : α) (k : α → β) : β := k x
def bnp {α σ β : Type} (q : α × σ) (k : α → σ → β) : β := k q.1 q.2
def bd {α β : Type} (x : Option α) (k : α → Option β) : Option β := match x with | none => none | some a => k a
def bdp {α σ β : Type} (x : Option (α × σ)) (k : α → σ → Option β) : Option β := match x with | none => none | some q => k q.1 q.2
def ix {β : Type} (i : Int32) (n : Nat) (k : Option β) : Option β := if i < 0 ∨ n ≤ i.toNatClampNeg then none else k
def nz {β : Type} (y : Int32) (k : Option β) : Option β := if y = 0 then none else k
theorem bnd_el {α β : Type} {x : α} {k : α → β} {r : β} (h : bnd x k = r) : ∃ y, y = x ∧ k y = r := ⟨x, rfl, h⟩
theorem bnp_el {α σ β : Type} {q : α × σ} {k : α → σ → β} {r : β} (h : bnp q k = r) : ∃ x y, q = (x, y) ∧ k x y = r := ⟨q.1, q.2, rfl, h⟩
theorem bd_el {α β : Type} {x : Option α} {k : α → Option β} {r : β} (h : bd x k = some r) : ∃ y, x = some y ∧ k y = some r := by
  cases x with
  | none => cases h
  | some y => exact ⟨y, rfl, h⟩
theorem bdp_el {α σ β : Type} {x : Option (α × σ)} {k : α → σ → Option β} {r : β} (h : bdp x k = some r) : ∃ y z, x = some (y, z) ∧ k y z = some r := by
  cases x with
  | none => cases h
  | some q => exact ⟨q.1, q.2, rfl, h⟩
theorem ix_el {β : Type} {i : Int32} {n : Nat} {k : Option β} {r : β} (h : ix i n k = some r) : vp_in i n ∧ k = some r := by
  unfold ix at h
  split at h
  · cases h
  · rename_i h1
    exact ⟨h1, h⟩
theorem nz_el {β : Type} {y : Int32} {k : Option β} {r : β} (h : nz y k = some r) : ¬ y = 0 ∧ k = some r := by
  unfold nz at h
  split at h
  · cases h
  · rename_i h1
    exact ⟨h1, h⟩
theorem it_pos {P : Prop} {d : Decidable P} {β : Type} {x y r : β} (hc : P) (h : (if P then x else y) = r) : x = r := by rw [if_pos hc] at h; exact h
theorem it_neg {P : Prop} {d : Decidable P} {β : Type} {x y r : β} (hc : ¬ P) (h : (if P then x else y) = r) : y = r := by rw [if_neg hc] at h; exact h
theorem jn_1 {α β : Type} {body : (α → β) → β} {k : α → β} {r : β} {P : Prop} (V : α → Prop) (hf : jn body k = r) (h1 : ∀ a, k a = r → V a) (h2 : (∀ a, k a = r → V a) → body k = r → P) : P := h2 h1 hf
theorem jn_2 {α α2 β : Type} {body : (α → α2 → β) → β} {k : α → α2 → β} {r : β} {P : Prop} (V : α → α2 → Prop) (hf : jn body k = r) (h1 : ∀ a a2, k a a2 = r → V a a2) (h2 : (∀ a a2, k a a2 = r → V a a2) → body k = r → P) : P := h2 h1 hf
theorem jn_3 {α α2 α3 β : Type} {body : (α → α2 → α3 → β) → β} {k : α → α2 → α3 → β} {r : β} {P : Prop} (V : α → α2 → α3 → Prop) (hf : jn body k = r) (h1 : ∀ a a2 a3, k a a2 a3 = r → V a a2 a3) (h2 : (∀ a a2 a3, k a a2 a3 = r → V a a2 a3) → body k = r → P) : P := h2 h1 hf
theorem jn_4 {α α2 α3 α4 β : Type} {body : (α → α2 → α3 → α4 → β) → β} {k : α → α2 → α3 → α4 → β} {r : β} {P : Prop} (V : α → α2 → α3 → α4 → Prop) (hf : jn body k = r) (h1 : ∀ a a2 a3 a4, k a a2 a3 a4 = r → V a a2 a3 a4) (h2 : (∀ a a2 a3 a4, k a a2 a3 a4 = r → V a a2 a3 a4) → body k = r → P) : P := h2 h1 hf
theorem ev_v {v r : Int32} (h : v = r) : some (Value.int r) = some (.int v) := by rw [h]
theorem ev_o {v r : Int32} (h : some v = some r) : some (Value.int r) = some (.int v) := by cases h; rfl
theorem ev_p {σ : Type} {v r : Int32} {S S' : σ} (h : (v, S) = (r, S')) : some (Value.int r) = some (.int v) := by cases h; rfl
theorem ev_q {σ : Type} {v r : Int32} {S S' : σ} (h : some (v, S) = some (r, S')) : some (Value.int r) = some (.int v) := by cases h; rfl
theorem ew_v {E : En} {G : Gs} {o : Nat} {S S' : St} (h : S = S') : wl E (va_up G o S) = wl E (va_up G o S') := by rw [h]
theorem ew_o {E : En} {G : Gs} {o : Nat} {S S' : St} (h : some S = some S') : wl E (va_up G o S) = wl E (va_up G o S') := by cases h; rfl
theorem ew_p {E : En} {G : Gs} {o : Nat} {v r : Int32} {S S' : St} (h : (v, S) = (r, S')) : wl E (va_up G o S) = wl E (va_up G o S') := by cases h; rfl
theorem ew_q {E : En} {G : Gs} {o : Nat} {v r : Int32} {S S' : St} (h : some (v, S) = some (r, S')) : wl E (va_up G o S) = wl E (va_up G o S') := by cases h; rfl
theorem eg_v {E : En} {S S' : Gs} (h : S = S') : wl E S = wl E S' := by rw [h]
theorem eg_o {E : En} {S S' : Gs} (h : some S = some S') : wl E S = wl E S' := by cases h; rfl
theorem eg_p {E : En} {v r : Int32} {S S' : Gs} (h : (v, S) = (r, S')) : wl E S = wl E S' := by cases h; rfl
theorem eg_q {E : En} {v r : Int32} {S S' : Gs} (h : some (v, S) = some (r, S')) : wl E S = wl E S' := by cases h; rfl
/-! which cells there are -/
def LibG (E : En) (b : Nat) : Prop := ∀ k, k < 42 → (b + 2, k) ∈ eW E
def ModG (E : En) : Prop := ∀ k, k < 9 → (1, k) ∈ eW E
def TopG (E : En) : Prop := ∀ k, k < 8 → (0, k) ∈ eW E
def RowAt (E : En) (o k n : Nat) : Prop := (o, k) ∈ eW E ∧ (o, k + 1) ∈ eW E ∧ (∀ f, cel E o k f = .inr (6, [.ref (eA E o (k + 1))])) ∧ ∀ f, cel E o (k + 1) f = .inl (eI E, n, .inl f)
theorem rl_1 {b : Nat} (hL : LibG E b) : RowAt E (b + 2) 1 4 := ⟨hL 1 (by decide), hL 2 (by decide), fun _ => rfl, fun _ => rfl⟩
theorem rl_3 {b : Nat} (hL : LibG E b) : RowAt E (b + 2) 3 24 := ⟨hL 3 (by decide), hL 4 (by decide), fun _ => rfl, fun _ => rfl⟩
theorem rl_6 {b : Nat} (hL : LibG E b) : RowAt E (b + 2) 6 24 := ⟨hL 6 (by decide), hL 7 (by decide), fun _ => rfl, fun _ => rfl⟩
theorem rl_8 {b : Nat} (hL : LibG E b) : RowAt E (b + 2) 8 24 := ⟨hL 8 (by decide), hL 9 (by decide), fun _ => rfl, fun _ => rfl⟩
theorem rl_11 {b : Nat} (hL : LibG E b) : RowAt E (b + 2) 11 16 := ⟨hL 11 (by decide), hL 12 (by decide), fun _ => rfl, fun _ => rfl⟩
theorem rl_13 {b : Nat} (hL : LibG E b) : RowAt E (b + 2) 13 128 := ⟨hL 13 (by decide), hL 14 (by decide), fun _ => rfl, fun _ => rfl⟩
theorem rl_15 {b : Nat} (hL : LibG E b) : RowAt E (b + 2) 15 128 := ⟨hL 15 (by decide), hL 16 (by decide), fun _ => rfl, fun _ => rfl⟩
theorem rl_17 {b : Nat} (hL : LibG E b) : RowAt E (b + 2) 17 128 := ⟨hL 17 (by decide), hL 18 (by decide), fun _ => rfl, fun _ => rfl⟩
theorem rl_19 {b : Nat} (hL : LibG E b) : RowAt E (b + 2) 19 24 := ⟨hL 19 (by decide), hL 20 (by decide), fun _ => rfl, fun _ => rfl⟩
theorem rl_22 {b : Nat} (hL : LibG E b) : RowAt E (b + 2) 22 60 := ⟨hL 22 (by decide), hL 23 (by decide), fun _ => rfl, fun _ => rfl⟩
theorem rl_24 {b : Nat} (hL : LibG E b) : RowAt E (b + 2) 24 60 := ⟨hL 24 (by decide), hL 25 (by decide), fun _ => rfl, fun _ => rfl⟩
theorem rl_26 {b : Nat} (hL : LibG E b) : RowAt E (b + 2) 26 60 := ⟨hL 26 (by decide), hL 27 (by decide), fun _ => rfl, fun _ => rfl⟩
theorem rl_28 {b : Nat} (hL : LibG E b) : RowAt E (b + 2) 28 3 := ⟨hL 28 (by decide), hL 29 (by decide), fun _ => rfl, fun _ => rfl⟩
theorem rl_30 {b : Nat} (hL : LibG E b) : RowAt E (b + 2) 30 24 := ⟨hL 30 (by decide), hL 31 (by decide), fun _ => rfl, fun _ => rfl⟩
theorem rl_32 {b : Nat} (hL : LibG E b) : RowAt E (b + 2) 32 24 := ⟨hL 32 (by decide), hL 33 (by decide), fun _ => rfl, fun _ => rfl⟩
theorem rl_34 {b : Nat} (hL : LibG E b) : RowAt E (b + 2) 34 16 := ⟨hL 34 (by decide), hL 35 (by decide), fun _ => rfl, fun _ => rfl⟩
theorem rl_36 {b : Nat} (hL : LibG E b) : RowAt E (b + 2) 36 16 := ⟨hL 36 (by decide), hL 37 (by decide), fun _ => rfl, fun _ => rfl⟩
theorem rl_38 {b : Nat} (hL : LibG E b) : RowAt E (b + 2) 38 16 := ⟨hL 38 (by decide), hL 39 (by decide), fun _ => rfl, fun _ => rfl⟩
theorem rl_40 {b : Nat} (hL : LibG E b) : RowAt E (b + 2) 40 16 := ⟨hL 40 (by decide), hL 41 (by decide), fun _ => rfl, fun _ => rfl⟩
theorem rt_5 (hT : TopG E) : RowAt E 0 5 80 := ⟨hT 5 (by decide), hT 6 (by decide), fun _ => rfl, fun _ => rfl⟩
end
section
theorem fk_X8_10 : FLk RX8 10 8 0 := ⟨RX8, TX8, 6, _, rfl, inlX8, by decide, flX8_10, rfl⟩
theorem fk_X8_16 : FLk RX8 16 8 1 := ⟨RX8, TX8, 6, _, rfl, inlX8, by decide, flX8_16, rfl⟩
theorem fk_X8_22 : FLk RX8 22 8 2 := ⟨RX8, TX8, 6, _, rfl, inlX8, by decide, flX8_22, rfl⟩
theorem fk_X8_26 : FLk RX8 26 8 3 := ⟨RX8, TX8, 6, _, rfl, inlX8, by decide, flX8_26, rfl⟩
theorem fk_X8_33 : FLk RX8 33 8 4 := ⟨RX8, TX8, 6, _, rfl, inlX8, by decide, flX8_33, rfl⟩
theorem fk_X8_42 : FLk RX8 42 8 5 := ⟨RX8, TX8, 6, _, rfl, inlX8, by decide, flX8_42, rfl⟩
theorem fk_X3_18 : FLk RX3 18 3 0 := ⟨RX3, TX3, 12, _, rfl, inlX3, by decide, flX3_18, rfl⟩
theorem fk_X3_24 : FLk RX3 24 3 1 := ⟨RX3, TX3, 12, _, rfl, inlX3, by decide, flX3_24, rfl⟩
theorem fk_X3_30 : FLk RX3 30 3 2 := ⟨RX3, TX3, 12, _, rfl, inlX3, by decide, flX3_30, rfl⟩
theorem fk_X3_37 : FLk RX3 37 3 3 := ⟨RX3, TX3, 12, _, rfl, inlX3, by decide, flX3_37, rfl⟩
theorem fk_X3_44 : FLk RX3 44 3 4 := ⟨RX3, TX3, 12, _, rfl, inlX3, by decide, flX3_44, rfl⟩
theorem fk_X3_48 : FLk RX3 48 3 5 := ⟨RX3, TX3, 12, _, rfl, inlX3, by decide, flX3_48, rfl⟩
theorem fk_X3_51 : FLk RX3 51 3 6 := ⟨RX3, TX3, 12, _, rfl, inlX3, by decide, flX3_51, rfl⟩
theorem fk_X3_54 : FLk RX3 54 3 7 := ⟨RX3, TX3, 12, _, rfl, inlX3, by decide, flX3_54, rfl⟩
theorem fk_X3_57 : FLk RX3 57 3 8 := ⟨RX3, TX3, 12, _, rfl, inlX3, by decide, flX3_57, rfl⟩
theorem fk_X3_60 : FLk RX3 60 3 9 := ⟨RX3, TX3, 12, _, rfl, inlX3, by decide, flX3_60, rfl⟩
theorem fk_X3_63 : FLk RX3 63 3 10 := ⟨RX3, TX3, 12, _, rfl, inlX3, by decide, flX3_63, rfl⟩
theorem fk_X3_66 : FLk RX3 66 3 11 := ⟨RX3, TX3, 12, _, rfl, inlX3, by decide, flX3_66, rfl⟩
theorem fk_X6_7 : FLk RX6 7 6 0 := ⟨RX6, TX6, 1, _, rfl, inlX6, by decide, flX6_7, rfl⟩
theorem fk_X1_14 : FLk RX1 14 1 0 := ⟨RX1, TX1, 2, _, rfl, inlX1, by decide, flX1_14, rfl⟩
theorem fk_X1_20 : FLk RX1 20 1 1 := ⟨RX1, TX1, 2, _, rfl, inlX1, by decide, flX1_20, rfl⟩
theorem fk_X7_14 : FLk RX7 14 7 0 := ⟨RX7, TX7, 5, _, rfl, inlX7, by decide, flX7_14, rfl⟩
theorem fk_X7_20 : FLk RX7 20 7 1 := ⟨RX7, TX7, 5, _, rfl, inlX7, by decide, flX7_20, rfl⟩
theorem fk_X7_23 : FLk RX7 23 7 2 := ⟨RX7, TX7, 5, _, rfl, inlX7, by decide, flX7_23, rfl⟩
theorem fk_X7_26 : FLk RX7 26 7 3 := ⟨RX7, TX7, 5, _, rfl, inlX7, by decide, flX7_26, rfl⟩
theorem fk_X7_29 : FLk RX7 29 7 4 := ⟨RX7, TX7, 5, _, rfl, inlX7, by decide, flX7_29, rfl⟩
theorem fk_X0_14 : FLk RX0 14 0 0 := ⟨RX0, TX0, 5, _, rfl, inlX0, by decide, flX0_14, rfl⟩
theorem fk_X0_20 : FLk RX0 20 0 1 := ⟨RX0, TX0, 5, _, rfl, inlX0, by decide, flX0_20, rfl⟩
theorem fk_X0_23 : FLk RX0 23 0 2 := ⟨RX0, TX0, 5, _, rfl, inlX0, by decide, flX0_23, rfl⟩
theorem fk_X2_11 : FLk RX2 11 2 0 := ⟨RX2, TX2, 3, _, rfl, inlX2, by decide, flX2_11, rfl⟩
theorem fk_X5_14 : FLk RX5 14 5 0 := ⟨RX5, TX5, 2, _, rfl, inlX5, by decide, flX5_14, rfl⟩
theorem fk_X4_9 : FLk RX4 9 4 0 := ⟨RX4, TX4, 7, _, rfl, inlX4, by decide, flX4_9, rfl⟩
theorem fk_X9_7 : FLk RX9 7 9 0 := ⟨RX9, TX9, 14, _, rfl, inlX9, by decide, flX9_7, rfl⟩
theorem fk_X9_13 : FLk RX9 13 9 1 := ⟨RX9, TX9, 14, _, rfl, inlX9, by decide, flX9_13, rfl⟩
theorem fk_X9_16 : FLk RX9 16 9 4 := ⟨RX9, TX9, 14, _, rfl, inlX9, by decide, flX9_16, rfl⟩
theorem fk_X9_19 : FLk RX9 19 9 5 := ⟨RX9, TX9, 14, _, rfl, inlX9, by decide, flX9_19, rfl⟩
theorem fk_X9_23 : FLk RX9 23 9 6 := ⟨RX9, TX9, 14, _, rfl, inlX9, by decide, flX9_23, rfl⟩
theorem fk_X9_26 : FLk RX9 26 9 7 := ⟨RX9, TX9, 14, _, rfl, inlX9, by decide, flX9_26, rfl⟩
theorem fk_X9_29 : FLk RX9 29 9 12 := ⟨RX9, TX9, 14, _, rfl, inlX9, by decide, flX9_29, rfl⟩
theorem fk_X9_32 : FLk RX9 32 9 13 := ⟨RX9, TX9, 14, _, rfl, inlX9, by decide, flX9_32, rfl⟩
theorem fk_X2_18 : FLk RX2 18 2 2 := ⟨RX2, TX2, 3, _, rfl, inlX2, by decide, flX2_18, rfl⟩
theorem fp_X2_18 : FLp RX2 18 2 2 .int := ⟨RX2, TX2, 3, _, tyX2, rfl, inlX2, by decide, flX2_18, rfl, tyX2_ok, nmX2, rfl, by decide +kernel⟩
theorem fk_X2_22 : FLk RX2 22 2 1 := ⟨RX2, TX2, 3, _, rfl, inlX2, by decide, flX2_22, rfl⟩
theorem fp_X2_22 : FLp RX2 22 2 1 .int := ⟨RX2, TX2, 3, _, tyX2, rfl, inlX2, by decide, flX2_22, rfl, tyX2_ok, nmX2, rfl, by decide +kernel⟩
theorem fk_X0_26 : FLk RX0 26 0 3 := ⟨RX0, TX0, 5, _, rfl, inlX0, by decide, flX0_26, rfl⟩
theorem fp_X0_26 : FLp RX0 26 0 3 .int := ⟨RX0, TX0, 5, _, tyX0, rfl, inlX0, by decide, flX0_26, rfl, tyX0_ok, nmX0, rfl, by decide +kernel⟩
theorem fk_X0_30 : FLk RX0 30 0 4 := ⟨RX0, TX0, 5, _, rfl, inlX0, by decide, flX0_30, rfl⟩
theorem fp_X0_30 : FLp RX0 30 0 4 .int := ⟨RX0, TX0, 5, _, tyX0, rfl, inlX0, by decide, flX0_30, rfl, tyX0_ok, nmX0, rfl, by decide +kernel⟩
theorem fk_X9_39 : FLk RX9 39 9 3 := ⟨RX9, TX9, 14, _, rfl, inlX9, by decide, flX9_39, rfl⟩
theorem fp_X9_39 : FLp RX9 39 9 3 .int := ⟨RX9, TX9, 14, _, tyX9, rfl, inlX9, by decide, flX9_39, rfl, tyX9_ok, nmX9, rfl, by decide +kernel⟩
theorem fk_X9_43 : FLk RX9 43 9 2 := ⟨RX9, TX9, 14, _, rfl, inlX9, by decide, flX9_43, rfl⟩
theorem fp_X9_43 : FLp RX9 43 9 2 .int := ⟨RX9, TX9, 14, _, tyX9, rfl, inlX9, by decide, flX9_43, rfl, tyX9_ok, nmX9, rfl, by decide +kernel⟩
theorem fk_X9_180 : FLk RX9 180 9 8 := ⟨RX9, TX9, 14, _, rfl, inlX9, by decide, flX9_180, rfl⟩
theorem fp_X9_180 : FLp RX9 180 9 8 .int := ⟨RX9, TX9, 14, _, tyX9, rfl, inlX9, by decide, flX9_180, rfl, tyX9_ok, nmX9, rfl, by decide +kernel⟩
theorem fk_X5_20 : FLk RX5 20 5 1 := ⟨RX5, TX5, 2, _, rfl, inlX5, by decide, flX5_20, rfl⟩
theorem fp_X5_20 : FLp RX5 20 5 1 .int := ⟨RX5, TX5, 2, _, tyX5, rfl, inlX5, by decide, flX5_20, rfl, tyX5_ok, nmX5, rfl, by decide +kernel⟩
theorem fk_X4_15 : FLk RX4 15 4 1 := ⟨RX4, TX4, 7, _, rfl, inlX4, by decide, flX4_15, rfl⟩
theorem fp_X4_15 : FLp RX4 15 4 1 .int := ⟨RX4, TX4, 7, _, tyX4, rfl, inlX4, by decide, flX4_15, rfl, tyX4_ok, nmX4, rfl, by decide +kernel⟩
theorem fk_X4_51 : FLk RX4 51 4 3 := ⟨RX4, TX4, 7, _, rfl, inlX4, by decide, flX4_51, rfl⟩
theorem fp_X4_51 : FLp RX4 51 4 3 .int := ⟨RX4, TX4, 7, _, tyX4, rfl, inlX4, by decide, flX4_51, rfl, tyX4_ok, nmX4, rfl, by decide +kernel⟩
theorem fk_X4_54 : FLk RX4 54 4 4 := ⟨RX4, TX4, 7, _, rfl, inlX4, by decide, flX4_54, rfl⟩
theorem fp_X4_54 : FLp RX4 54 4 4 .int := ⟨RX4, TX4, 7, _, tyX4, rfl, inlX4, by decide, flX4_54, rfl, tyX4_ok, nmX4, rfl, by decide +kernel⟩
theorem fk_X4_60 : FLk RX4 60 4 2 := ⟨RX4, TX4, 7, _, rfl, inlX4, by decide, flX4_60, rfl⟩
theorem fp_X4_60 : FLp RX4 60 4 2 .int := ⟨RX4, TX4, 7, _, tyX4, rfl, inlX4, by decide, flX4_60, rfl, tyX4_ok, nmX4, rfl, by decide +kernel⟩
theorem fk_X4_63 : FLk RX4 63 4 5 := ⟨RX4, TX4, 7, _, rfl, inlX4, by decide, flX4_63, rfl⟩
theorem fp_X4_63 : FLp RX4 63 4 5 .int := ⟨RX4, TX4, 7, _, tyX4, rfl, inlX4, by decide, flX4_63, rfl, tyX4_ok, nmX4, rfl, by decide +kernel⟩
theorem fk_X4_66 : FLk RX4 66 4 6 := ⟨RX4, TX4, 7, _, rfl, inlX4, by decide, flX4_66, rfl⟩
theorem fp_X4_66 : FLp RX4 66 4 6 .int := ⟨RX4, TX4, 7, _, tyX4, rfl, inlX4, by decide, flX4_66, rfl, tyX4_ok, nmX4, rfl, by decide +kernel⟩
theorem fk_X9_200 : FLk RX9 200 9 9 := ⟨RX9, TX9, 14, _, rfl, inlX9, by decide, flX9_200, rfl⟩
theorem fp_X9_200 : FLp RX9 200 9 9 .int := ⟨RX9, TX9, 14, _, tyX9, rfl, inlX9, by decide, flX9_200, rfl, tyX9_ok, nmX9, rfl, by decide +kernel⟩
theorem fk_X9_203 : FLk RX9 203 9 10 := ⟨RX9, TX9, 14, _, rfl, inlX9, by decide, flX9_203, rfl⟩
theorem fp_X9_203 : FLp RX9 203 9 10 .boolean := ⟨RX9, TX9, 14, _, tyX9, rfl, inlX9, by decide, flX9_203, rfl, tyX9_ok, nmX9, rfl, by decide +kernel⟩
theorem fk_X9_211 : FLk RX9 211 9 11 := ⟨RX9, TX9, 14, _, rfl, inlX9, by decide, flX9_211, rfl⟩
theorem fp_X9_211 : FLp RX9 211 9 11 .int := ⟨RX9, TX9, 14, _, tyX9, rfl, inlX9, by decide, flX9_211, rfl, tyX9_ok, nmX9, rfl, by decide +kernel⟩
theorem fn_X3_97 : FLn RX3 97 1 0 := ⟨RX1, TX1, 2, _, _, rfl, inlX1, by decide, List.mem_of_getElem? (i := 1) rfl, rfl⟩
theorem fn_X8_132 : FLn RX8 132 1 0 := ⟨RX1, TX1, 2, _, _, rfl, inlX1, by decide, List.mem_of_getElem? (i := 2) rfl, rfl⟩
theorem fn_X8_135 : FLn RX8 135 1 1 := ⟨RX1, TX1, 2, _, _, rfl, inlX1, by decide, List.mem_of_getElem? (i := 3) rfl, rfl⟩
theorem fn_X8_155 : FLn RX8 155 7 0 := ⟨RX7, TX7, 5, _, _, rfl, inlX7, by decide, List.mem_of_getElem? (i := 4) rfl, rfl⟩
theorem fn_X3_169 : FLn RX3 169 7 0 := ⟨RX7, TX7, 5, _, _, rfl, inlX7, by decide, List.mem_of_getElem? (i := 5) rfl, rfl⟩
theorem fn_X8_126 : FLn RX8 126 7 4 := ⟨RX7, TX7, 5, _, _, rfl, inlX7, by decide, List.mem_of_getElem? (i := 6) rfl, rfl⟩
theorem fn_X3_182 : FLn RX3 182 7 4 := ⟨RX7, TX7, 5, _, _, rfl, inlX7, by decide, List.mem_of_getElem? (i := 7) rfl, rfl⟩
theorem fn_X3_208 : FLn RX3 208 0 0 := ⟨RX0, TX0, 5, _, _, rfl, inlX0, by decide, List.mem_of_getElem? (i := 8) rfl, rfl⟩
theorem fn_X3_202 : FLn RX3 202 0 1 := ⟨RX0, TX0, 5, _, _, rfl, inlX0, by decide, List.mem_of_getElem? (i := 9) rfl, rfl⟩
theorem fn_X3_205 : FLn RX3 205 0 2 := ⟨RX0, TX0, 5, _, _, rfl, inlX0, by decide, List.mem_of_getElem? (i := 10) rfl, rfl⟩
theorem fn_X8_225 : FLn RX8 225 0 4 := ⟨RX0, TX0, 5, _, _, rfl, inlX0, by decide, List.mem_of_getElem? (i := 11) rfl, rfl⟩
theorem fq_X8_225 : FLq RX8 225 0 4 .int := ⟨RX0, TX0, 5, _, _, tyX0, rfl, inlX0, by decide, List.mem_of_getElem? (i := 11) rfl, rfl, tyX0_ok, nmX0, rfl, by decide +kernel⟩
theorem fn_X3_195 : FLn RX3 195 0 4 := ⟨RX0, TX0, 5, _, _, rfl, inlX0, by decide, List.mem_of_getElem? (i := 12) rfl, rfl⟩
theorem fq_X3_195 : FLq RX3 195 0 4 .int := ⟨RX0, TX0, 5, _, _, tyX0, rfl, inlX0, by decide, List.mem_of_getElem? (i := 12) rfl, rfl, tyX0_ok, nmX0, rfl, by decide +kernel⟩
theorem fn_X8_64 : FLn RX8 64 3 0 := ⟨RX3, TX3, 12, _, _, rfl, inlX3, by decide, List.mem_of_getElem? (i := 13) rfl, rfl⟩
theorem fn_X8_129 : FLn RX8 129 3 1 := ⟨RX3, TX3, 12, _, _, rfl, inlX3, by decide, List.mem_of_getElem? (i := 14) rfl, rfl⟩
theorem fn_X8_50 : FLn RX8 50 3 2 := ⟨RX3, TX3, 12, _, _, rfl, inlX3, by decide, List.mem_of_getElem? (i := 15) rfl, rfl⟩
theorem fn_X8_104 : FLn RX8 104 3 3 := ⟨RX3, TX3, 12, _, _, rfl, inlX3, by decide, List.mem_of_getElem? (i := 16) rfl, rfl⟩
theorem fn_X8_86 : FLn RX8 86 3 4 := ⟨RX3, TX3, 12, _, _, rfl, inlX3, by decide, List.mem_of_getElem? (i := 17) rfl, rfl⟩
theorem fn_X8_185 : FLn RX8 185 3 5 := ⟨RX3, TX3, 12, _, _, rfl, inlX3, by decide, List.mem_of_getElem? (i := 18) rfl, rfl⟩
theorem fn_X8_146 : FLn RX8 146 3 6 := ⟨RX3, TX3, 12, _, _, rfl, inlX3, by decide, List.mem_of_getElem? (i := 19) rfl, rfl⟩
theorem fn_X8_149 : FLn RX8 149 3 7 := ⟨RX3, TX3, 12, _, _, rfl, inlX3, by decide, List.mem_of_getElem? (i := 20) rfl, rfl⟩
theorem fn_X8_170 : FLn RX8 170 3 8 := ⟨RX3, TX3, 12, _, _, rfl, inlX3, by decide, List.mem_of_getElem? (i := 21) rfl, rfl⟩
theorem fn_X8_173 : FLn RX8 173 3 9 := ⟨RX3, TX3, 12, _, _, rfl, inlX3, by decide, List.mem_of_getElem? (i := 22) rfl, rfl⟩
theorem fn_X8_176 : FLn RX8 176 3 10 := ⟨RX3, TX3, 12, _, _, rfl, inlX3, by decide, List.mem_of_getElem? (i := 23) rfl, rfl⟩
theorem fn_X8_179 : FLn RX8 179 3 11 := ⟨RX3, TX3, 12, _, _, rfl, inlX3, by decide, List.mem_of_getElem? (i := 24) rfl, rfl⟩
theorem fn_X8_201 : FLn RX8 201 2 2 := ⟨RX2, TX2, 3, _, _, rfl, inlX2, by decide, List.mem_of_getElem? (i := 25) rfl, rfl⟩
theorem fq_X8_201 : FLq RX8 201 2 2 .int := ⟨RX2, TX2, 3, _, _, tyX2, rfl, inlX2, by decide, List.mem_of_getElem? (i := 25) rfl, rfl, tyX2_ok, nmX2, rfl, by decide +kernel⟩
theorem fn_X4_23 : FLn RX4 23 5 1 := ⟨RX5, TX5, 2, _, _, rfl, inlX5, by decide, List.mem_of_getElem? (i := 26) rfl, rfl⟩
theorem fq_X4_23 : FLq RX4 23 5 1 .int := ⟨RX5, TX5, 2, _, _, tyX5, rfl, inlX5, by decide, List.mem_of_getElem? (i := 26) rfl, rfl, tyX5_ok, nmX5, rfl, by decide +kernel⟩
theorem fn_X8_197 : FLn RX8 197 5 1 := ⟨RX5, TX5, 2, _, _, rfl, inlX5, by decide, List.mem_of_getElem? (i := 27) rfl, rfl⟩
theorem fq_X8_197 : FLq RX8 197 5 1 .int := ⟨RX5, TX5, 2, _, _, tyX5, rfl, inlX5, by decide, List.mem_of_getElem? (i := 27) rfl, rfl, tyX5_ok, nmX5, rfl, by decide +kernel⟩
theorem fn_X8_243 : FLn RX8 243 4 1 := ⟨RX4, TX4, 7, _, _, rfl, inlX4, by decide, List.mem_of_getElem? (i := 28) rfl, rfl⟩
theorem fq_X8_243 : FLq RX8 243 4 1 .int := ⟨RX4, TX4, 7, _, _, tyX4, rfl, inlX4, by decide, List.mem_of_getElem? (i := 28) rfl, rfl, tyX4_ok, nmX4, rfl, by decide +kernel⟩
theorem fn_X8_250 : FLn RX8 250 4 3 := ⟨RX4, TX4, 7, _, _, rfl, inlX4, by decide, List.mem_of_getElem? (i := 29) rfl, rfl⟩
theorem fq_X8_250 : FLq RX8 250 4 3 .int := ⟨RX4, TX4, 7, _, _, tyX4, rfl, inlX4, by decide, List.mem_of_getElem? (i := 29) rfl, rfl, tyX4_ok, nmX4, rfl, by decide +kernel⟩
theorem fn_X8_253 : FLn RX8 253 4 4 := ⟨RX4, TX4, 7, _, _, rfl, inlX4, by decide, List.mem_of_getElem? (i := 30) rfl, rfl⟩
theorem fq_X8_253 : FLq RX8 253 4 4 .int := ⟨RX4, TX4, 7, _, _, tyX4, rfl, inlX4, by decide, List.mem_of_getElem? (i := 30) rfl, rfl, tyX4_ok, nmX4, rfl, by decide +kernel⟩
theorem fn_X8_256 : FLn RX8 256 4 5 := ⟨RX4, TX4, 7, _, _, rfl, inlX4, by decide, List.mem_of_getElem? (i := 31) rfl, rfl⟩
theorem fq_X8_256 : FLq RX8 256 4 5 .int := ⟨RX4, TX4, 7, _, _, tyX4, rfl, inlX4, by decide, List.mem_of_getElem? (i := 31) rfl, rfl, tyX4_ok, nmX4, rfl, by decide +kernel⟩
theorem fn_X8_259 : FLn RX8 259 4 6 := ⟨RX4, TX4, 7, _, _, rfl, inlX4, by decide, List.mem_of_getElem? (i := 32) rfl, rfl⟩
theorem fq_X8_259 : FLq RX8 259 4 6 .int := ⟨RX4, TX4, 7, _, _, tyX4, rfl, inlX4, by decide, List.mem_of_getElem? (i := 32) rfl, rfl, tyX4_ok, nmX4, rfl, by decide +kernel⟩
theorem nd_X6_write : (yX6_write).cls ≠ "java/lang/invoke/MethodHandle" ∧ (yX6_write).cls ≠ "java/lang/invoke/VarHandle" ∧ (parseMethodDescriptor (yX6_write).desc).map (fun d => d.parameters.length) = some 2 := by decide +kernel
theorem mk_X3_69 : MLk RX3 69 yX6_write cX6_write 3 none 2 := ⟨mlX3_69, im_X6_write, se_X6_write, ini_X6, co_X6_write, nd_X6_write⟩
theorem nd_X8_set : (yX8_set).cls ≠ "java/lang/invoke/MethodHandle" ∧ (yX8_set).cls ≠ "java/lang/invoke/VarHandle" ∧ (parseMethodDescriptor (yX8_set).desc).map (fun d => d.parameters.length) = some 2 := by decide +kernel
theorem mk_L_13 : MLk RL 13 yX8_set cX8_set 4 (some .int) 2 := ⟨mlL_13, im_X8_set, se_X8_set, ini_X8, co_X8_set, nd_X8_set⟩
theorem nd_X8_isValueOf : (yX8_isValueOf).cls ≠ "java/lang/invoke/MethodHandle" ∧ (yX8_isValueOf).cls ≠ "java/lang/invoke/VarHandle" ∧ (parseMethodDescriptor (yX8_isValueOf).desc).map (fun d => d.parameters.length) = some 2 := by decide +kernel
theorem mk_X8_46 : MSk RX8 46 yX8_isValueOf cX8_isValueOf 2 (some .boolean) 2 := ⟨mlX8_46, st_X8_isValueOf, ini_X8, co_X8_isValueOf, nd_X8_isValueOf⟩
theorem nd_X1_howManyInUse : (yX1_howManyInUse).cls ≠ "java/lang/invoke/MethodHandle" ∧ (yX1_howManyInUse).cls ≠ "java/lang/invoke/VarHandle" ∧ (parseMethodDescriptor (yX1_howManyInUse).desc).map (fun d => d.parameters.length) = some 0 := by decide +kernel
theorem mk_X8_54 : MLk RX8 54 yX1_howManyInUse cX1_howManyInUse 3 (some .int) 0 := ⟨mlX8_54, im_X1_howManyInUse, se_X1_howManyInUse, ini_X1, co_X1_howManyInUse, nd_X1_howManyInUse⟩
theorem nd_X6_at : (yX6_at).cls ≠ "java/lang/invoke/MethodHandle" ∧ (yX6_at).cls ≠ "java/lang/invoke/VarHandle" ∧ (parseMethodDescriptor (yX6_at).desc).map (fun d => d.parameters.length) = some 1 := by decide +kernel
theorem mk_X1_23 : MLk RX1 23 yX6_at cX6_at 2 (some .int) 1 := ⟨mlX1_23, im_X6_at, se_X6_at, ini_X6, co_X6_at, nd_X6_at⟩
theorem nd_X2_keep : (yX2_keep).cls ≠ "java/lang/invoke/MethodHandle" ∧ (yX2_keep).cls ≠ "java/lang/invoke/VarHandle" ∧ (parseMethodDescriptor (yX2_keep).desc).map (fun d => d.parameters.length) = some 1 := by decide +kernel
theorem mk_X8_60 : MLk RX8 60 yX2_keep cX2_keep 3 none 1 := ⟨mlX8_60, im_X2_keep, se_X2_keep, ini_X2, co_X2_keep, nd_X2_keep⟩
theorem nd_X2_stateAt : (yX2_stateAt).cls ≠ "java/lang/invoke/MethodHandle" ∧ (yX2_stateAt).cls ≠ "java/lang/invoke/VarHandle" ∧ (parseMethodDescriptor (yX2_stateAt).desc).map (fun d => d.parameters.length) = some 1 := by decide +kernel
theorem mk_X2_25 : MLk RX2 25 yX2_stateAt cX2_stateAt 3 (some (.object "ShoutGroups$Library")) 1 := ⟨mlX2_25, im_X2_stateAt, se_X2_stateAt, ini_X2, co_X2_stateAt, nd_X2_stateAt⟩
theorem nd_X3_copyFrom : (yX3_copyFrom).cls ≠ "java/lang/invoke/MethodHandle" ∧ (yX3_copyFrom).cls ≠ "java/lang/invoke/VarHandle" ∧ (parseMethodDescriptor (yX3_copyFrom).desc).map (fun d => d.parameters.length) = some 1 := by decide +kernel
theorem mk_X2_29 : MLk RX2 29 yX3_copyFrom cX3_copyFrom 2 none 1 := ⟨mlX2_29, im_X3_copyFrom, se_X3_copyFrom, ini_X3, co_X3_copyFrom, nd_X3_copyFrom⟩
theorem nd_X6_copyFrom : (yX6_copyFrom).cls ≠ "java/lang/invoke/MethodHandle" ∧ (yX6_copyFrom).cls ≠ "java/lang/invoke/VarHandle" ∧ (parseMethodDescriptor (yX6_copyFrom).desc).map (fun d => d.parameters.length) = some 1 := by decide +kernel
theorem mk_X3_73 : MLk RX3 73 yX6_copyFrom cX6_copyFrom 2 none 1 := ⟨mlX3_73, im_X6_copyFrom, se_X6_copyFrom, ini_X6, co_X6_copyFrom, nd_X6_copyFrom⟩
theorem nd_Lib_Math_min_name : (Lib.Math.min.name).cls ≠ "java/lang/invoke/MethodHandle" ∧ (Lib.Math.min.name).cls ≠ "java/lang/invoke/VarHandle" ∧ (parseMethodDescriptor (Lib.Math.min.name).desc).map (fun d => d.parameters.length) = some 2 := by decide +kernel
theorem mk_X6_19 : MSk RX6 19 Lib.Math.min.name Lib.Math.min.code 2 (some .int) 2 := ⟨mlX6_19, st_ib.Math.min.name, ini_javalangMath, co_ib.Math.min.name, nd_Lib_Math_min_name⟩
theorem nd_X1_copyFrom : (yX1_copyFrom).cls ≠ "java/lang/invoke/MethodHandle" ∧ (yX1_copyFrom).cls ≠ "java/lang/invoke/VarHandle" ∧ (parseMethodDescriptor (yX1_copyFrom).desc).map (fun d => d.parameters.length) = some 1 := by decide +kernel
theorem mk_X3_77 : MLk RX3 77 yX1_copyFrom cX1_copyFrom 2 none 1 := ⟨mlX3_77, im_X1_copyFrom, se_X1_copyFrom, ini_X1, co_X1_copyFrom, nd_X1_copyFrom⟩
theorem mk_X1_57 : MLk RX1 57 yX6_copyFrom cX6_copyFrom 2 none 1 := ⟨mlX1_57, im_X6_copyFrom, se_X6_copyFrom, ini_X6, co_X6_copyFrom, nd_X6_copyFrom⟩
theorem nd_X7_copyFrom : (yX7_copyFrom).cls ≠ "java/lang/invoke/MethodHandle" ∧ (yX7_copyFrom).cls ≠ "java/lang/invoke/VarHandle" ∧ (parseMethodDescriptor (yX7_copyFrom).desc).map (fun d => d.parameters.length) = some 1 := by decide +kernel
theorem mk_X3_80 : MLk RX3 80 yX7_copyFrom cX7_copyFrom 2 none 1 := ⟨mlX3_80, im_X7_copyFrom, se_X7_copyFrom, ini_X7, co_X7_copyFrom, nd_X7_copyFrom⟩
theorem mk_X7_53 : MLk RX7 53 yX6_copyFrom cX6_copyFrom 2 none 1 := ⟨mlX7_53, im_X6_copyFrom, se_X6_copyFrom, ini_X6, co_X6_copyFrom, nd_X6_copyFrom⟩
theorem nd_X0_copyFrom : (yX0_copyFrom).cls ≠ "java/lang/invoke/MethodHandle" ∧ (yX0_copyFrom).cls ≠ "java/lang/invoke/VarHandle" ∧ (parseMethodDescriptor (yX0_copyFrom).desc).map (fun d => d.parameters.length) = some 1 := by decide +kernel
theorem mk_X3_83 : MLk RX3 83 yX0_copyFrom cX0_copyFrom 2 none 1 := ⟨mlX3_83, im_X0_copyFrom, se_X0_copyFrom, ini_X0, co_X0_copyFrom, nd_X0_copyFrom⟩
theorem mk_X0_41 : MLk RX0 41 yX6_copyFrom cX6_copyFrom 2 none 1 := ⟨mlX0_41, im_X6_copyFrom, se_X6_copyFrom, ini_X6, co_X6_copyFrom, nd_X6_copyFrom⟩
theorem mk_X8_68 : MLk RX8 68 yX6_at cX6_at 2 (some .int) 1 := ⟨mlX8_68, im_X6_at, se_X6_at, ini_X6, co_X6_at, nd_X6_at⟩
theorem mk_X8_74 : MLk RX8 74 yX6_write cX6_write 3 none 2 := ⟨mlX8_74, im_X6_write, se_X6_write, ini_X6, co_X6_write, nd_X6_write⟩
theorem nd_X9_set : (yX9_set).cls ≠ "java/lang/invoke/MethodHandle" ∧ (yX9_set).cls ≠ "java/lang/invoke/VarHandle" ∧ (parseMethodDescriptor (yX9_set).desc).map (fun d => d.parameters.length) = some 2 := by decide +kernel
theorem mk_L_17 : MLk RL 17 yX9_set cX9_set 4 (some .int) 2 := ⟨mlL_17, im_X9_set, se_X9_set, ini_X9, co_X9_set, nd_X9_set⟩
theorem nd_X9_in : (yX9_in).cls ≠ "java/lang/invoke/MethodHandle" ∧ (yX9_in).cls ≠ "java/lang/invoke/VarHandle" ∧ (parseMethodDescriptor (yX9_in).desc).map (fun d => d.parameters.length) = some 3 := by decide +kernel
theorem mk_X9_35 : MSk RX9 35 yX9_in cX9_in 3 (some .boolean) 3 := ⟨mlX9_35, st_X9_in, ini_X9, co_X9_in, nd_X9_in⟩
theorem nd_X9_cardsThat : (yX9_cardsThat).cls ≠ "java/lang/invoke/MethodHandle" ∧ (yX9_cardsThat).cls ≠ "java/lang/invoke/VarHandle" ∧ (parseMethodDescriptor (yX9_cardsThat).desc).map (fun d => d.parameters.length) = some 2 := by decide +kernel
theorem mk_X9_164 : MLk RX9 164 yX9_cardsThat cX9_cardsThat 5 (some .int) 2 := ⟨mlX9_164, im_X9_cardsThat, se_X9_cardsThat, ini_X9, co_X9_cardsThat, nd_X9_cardsThat⟩
theorem nd_X9_ofN : (yX9_ofN).cls ≠ "java/lang/invoke/MethodHandle" ∧ (yX9_ofN).cls ≠ "java/lang/invoke/VarHandle" ∧ (parseMethodDescriptor (yX9_ofN).desc).map (fun d => d.parameters.length) = some 2 := by decide +kernel
theorem mk_X9_75 : MLk RX9 75 yX9_ofN cX9_ofN 3 (some .int) 2 := ⟨mlX9_75, im_X9_ofN, se_X9_ofN, ini_X9, co_X9_ofN, nd_X9_ofN⟩
theorem nd_X9_keep : (yX9_keep).cls ≠ "java/lang/invoke/MethodHandle" ∧ (yX9_keep).cls ≠ "java/lang/invoke/VarHandle" ∧ (parseMethodDescriptor (yX9_keep).desc).map (fun d => d.parameters.length) = some 0 := by decide +kernel
theorem mk_X9_46 : MLk RX9 46 yX9_keep cX9_keep 3 none 0 := ⟨mlX9_46, im_X9_keep, se_X9_keep, ini_X9, co_X9_keep, nd_X9_keep⟩
theorem nd_X8_read : (yX8_read).cls ≠ "java/lang/invoke/MethodHandle" ∧ (yX8_read).cls ≠ "java/lang/invoke/VarHandle" ∧ (parseMethodDescriptor (yX8_read).desc).map (fun d => d.parameters.length) = some 2 := by decide +kernel
theorem mk_L_18 : MLk RL 18 yX8_read cX8_read 3 (some .int) 2 := ⟨mlL_18, im_X8_read, se_X8_read, ini_X8, co_X8_read, nd_X8_read⟩
theorem nd_X8_happen : (yX8_happen).cls ≠ "java/lang/invoke/MethodHandle" ∧ (yX8_happen).cls ≠ "java/lang/invoke/VarHandle" ∧ (parseMethodDescriptor (yX8_happen).desc).map (fun d => d.parameters.length) = some 5 := by decide +kernel
theorem mk_X8_78 : MLk RX8 78 yX8_happen cX8_happen 7 (some .int) 5 := ⟨mlX8_78, im_X8_happen, se_X8_happen, ini_X8, co_X8_happen, nd_X8_happen⟩
theorem nd_X3_errorOf : (yX3_errorOf).cls ≠ "java/lang/invoke/MethodHandle" ∧ (yX3_errorOf).cls ≠ "java/lang/invoke/VarHandle" ∧ (parseMethodDescriptor (yX3_errorOf).desc).map (fun d => d.parameters.length) = some 4 := by decide +kernel
theorem mk_X8_82 : MLk RX8 82 yX3_errorOf cX3_errorOf 5 (some .int) 4 := ⟨mlX8_82, im_X3_errorOf, se_X3_errorOf, ini_X3, co_X3_errorOf, nd_X3_errorOf⟩
theorem nd_X7_holds : (yX7_holds).cls ≠ "java/lang/invoke/MethodHandle" ∧ (yX7_holds).cls ≠ "java/lang/invoke/VarHandle" ∧ (parseMethodDescriptor (yX7_holds).desc).map (fun d => d.parameters.length) = some 2 := by decide +kernel
theorem mk_X3_93 : MLk RX3 93 yX7_holds cX7_holds 3 (some .boolean) 2 := ⟨mlX3_93, im_X7_holds, se_X7_holds, ini_X7, co_X7_holds, nd_X7_holds⟩
theorem mk_X7_32 : MLk RX7 32 yX6_at cX6_at 2 (some .int) 1 := ⟨mlX7_32, im_X6_at, se_X6_at, ini_X6, co_X6_at, nd_X6_at⟩
theorem mk_X3_100 : MLk RX3 100 yX6_at cX6_at 2 (some .int) 1 := ⟨mlX3_100, im_X6_at, se_X6_at, ini_X6, co_X6_at, nd_X6_at⟩
theorem nd_X0_append : (yX0_append).cls ≠ "java/lang/invoke/MethodHandle" ∧ (yX0_append).cls ≠ "java/lang/invoke/VarHandle" ∧ (parseMethodDescriptor (yX0_append).desc).map (fun d => d.parameters.length) = some 3 := by decide +kernel
theorem mk_X8_90 : MLk RX8 90 yX0_append cX0_append 5 none 3 := ⟨mlX8_90, im_X0_append, se_X0_append, ini_X0, co_X0_append, nd_X0_append⟩
theorem nd_X0_cellOf : (yX0_cellOf).cls ≠ "java/lang/invoke/MethodHandle" ∧ (yX0_cellOf).cls ≠ "java/lang/invoke/VarHandle" ∧ (parseMethodDescriptor (yX0_cellOf).desc).map (fun d => d.parameters.length) = some 1 := by decide +kernel
theorem mk_X0_33 : MLk RX0 33 yX0_cellOf cX0_cellOf 2 (some .int) 1 := ⟨mlX0_33, im_X0_cellOf, se_X0_cellOf, ini_X0, co_X0_cellOf, nd_X0_cellOf⟩
theorem mk_X0_37 : MLk RX0 37 yX6_write cX6_write 3 none 2 := ⟨mlX0_37, im_X6_write, se_X6_write, ini_X6, co_X6_write, nd_X6_write⟩
theorem nd_X3_lend : (yX3_lend).cls ≠ "java/lang/invoke/MethodHandle" ∧ (yX3_lend).cls ≠ "java/lang/invoke/VarHandle" ∧ (parseMethodDescriptor (yX3_lend).desc).map (fun d => d.parameters.length) = some 2 := by decide +kernel
theorem mk_X8_96 : MLk RX8 96 yX3_lend cX3_lend 7 (some .int) 2 := ⟨mlX8_96, im_X3_lend, se_X3_lend, ini_X3, co_X3_lend, nd_X3_lend⟩
theorem nd_X7_placeOf : (yX7_placeOf).cls ≠ "java/lang/invoke/MethodHandle" ∧ (yX7_placeOf).cls ≠ "java/lang/invoke/VarHandle" ∧ (parseMethodDescriptor (yX7_placeOf).desc).map (fun d => d.parameters.length) = some 2 := by decide +kernel
theorem mk_X3_104 : MLk RX3 104 yX7_placeOf cX7_placeOf 6 (some .int) 2 := ⟨mlX3_104, im_X7_placeOf, se_X7_placeOf, ini_X7, co_X7_placeOf, nd_X7_placeOf⟩
theorem nd_X3_noteUse : (yX3_noteUse).cls ≠ "java/lang/invoke/MethodHandle" ∧ (yX3_noteUse).cls ≠ "java/lang/invoke/VarHandle" ∧ (parseMethodDescriptor (yX3_noteUse).desc).map (fun d => d.parameters.length) = some 2 := by decide +kernel
theorem mk_X3_108 : MLk RX3 108 yX3_noteUse cX3_noteUse 3 none 2 := ⟨mlX3_108, im_X3_noteUse, se_X3_noteUse, ini_X3, co_X3_noteUse, nd_X3_noteUse⟩
theorem nd_X6_add : (yX6_add).cls ≠ "java/lang/invoke/MethodHandle" ∧ (yX6_add).cls ≠ "java/lang/invoke/VarHandle" ∧ (parseMethodDescriptor (yX6_add).desc).map (fun d => d.parameters.length) = some 2 := by decide +kernel
theorem mk_X3_135 : MLk RX3 135 yX6_add cX6_add 3 none 2 := ⟨mlX3_135, im_X6_add, se_X6_add, ini_X6, co_X6_add, nd_X6_add⟩
theorem nd_X7_valueAt : (yX7_valueAt).cls ≠ "java/lang/invoke/MethodHandle" ∧ (yX7_valueAt).cls ≠ "java/lang/invoke/VarHandle" ∧ (parseMethodDescriptor (yX7_valueAt).desc).map (fun d => d.parameters.length) = some 2 := by decide +kernel
theorem mk_X3_112 : MLk RX3 112 yX7_valueAt cX7_valueAt 3 (some .int) 2 := ⟨mlX3_112, im_X7_valueAt, se_X7_valueAt, ini_X7, co_X7_valueAt, nd_X7_valueAt⟩
theorem nd_X7_isChangedAt : (yX7_isChangedAt).cls ≠ "java/lang/invoke/MethodHandle" ∧ (yX7_isChangedAt).cls ≠ "java/lang/invoke/VarHandle" ∧ (parseMethodDescriptor (yX7_isChangedAt).desc).map (fun d => d.parameters.length) = some 2 := by decide +kernel
theorem mk_X3_115 : MLk RX3 115 yX7_isChangedAt cX7_isChangedAt 3 (some .boolean) 2 := ⟨mlX3_115, im_X7_isChangedAt, se_X7_isChangedAt, ini_X7, co_X7_isChangedAt, nd_X7_isChangedAt⟩
theorem nd_X7_remove : (yX7_remove).cls ≠ "java/lang/invoke/MethodHandle" ∧ (yX7_remove).cls ≠ "java/lang/invoke/VarHandle" ∧ (parseMethodDescriptor (yX7_remove).desc).map (fun d => d.parameters.length) = some 2 := by decide +kernel
theorem mk_X3_118 : MLk RX3 118 yX7_remove cX7_remove 8 none 2 := ⟨mlX3_118, im_X7_remove, se_X7_remove, ini_X7, co_X7_remove, nd_X7_remove⟩
theorem mk_X7_40 : MLk RX7 40 yX6_write cX6_write 3 none 2 := ⟨mlX7_40, im_X6_write, se_X6_write, ini_X6, co_X6_write, nd_X6_write⟩
theorem nd_X7_lay : (yX7_lay).cls ≠ "java/lang/invoke/MethodHandle" ∧ (yX7_lay).cls ≠ "java/lang/invoke/VarHandle" ∧ (parseMethodDescriptor (yX7_lay).desc).map (fun d => d.parameters.length) = some 4 := by decide +kernel
theorem mk_X3_121 : MLk RX3 121 yX7_lay cX7_lay 7 none 4 := ⟨mlX3_121, im_X7_lay, se_X7_lay, ini_X7, co_X7_lay, nd_X7_lay⟩
theorem nd_X3_callBack : (yX3_callBack).cls ≠ "java/lang/invoke/MethodHandle" ∧ (yX3_callBack).cls ≠ "java/lang/invoke/VarHandle" ∧ (parseMethodDescriptor (yX3_callBack).desc).map (fun d => d.parameters.length) = some 2 := by decide +kernel
theorem mk_X3_125 : MLk RX3 125 yX3_callBack cX3_callBack 7 (some .int) 2 := ⟨mlX3_125, im_X3_callBack, se_X3_callBack, ini_X3, co_X3_callBack, nd_X3_callBack⟩
theorem nd_X3_called : (yX3_called).cls ≠ "java/lang/invoke/MethodHandle" ∧ (yX3_called).cls ≠ "java/lang/invoke/VarHandle" ∧ (parseMethodDescriptor (yX3_called).desc).map (fun d => d.parameters.length) = some 1 := by decide +kernel
theorem mk_X3_154 : MLk RX3 154 yX3_called cX3_called 2 (some .int) 1 := ⟨mlX3_154, im_X3_called, se_X3_called, ini_X3, co_X3_called, nd_X3_called⟩
theorem nd_X1_called : (yX1_called).cls ≠ "java/lang/invoke/MethodHandle" ∧ (yX1_called).cls ≠ "java/lang/invoke/VarHandle" ∧ (parseMethodDescriptor (yX1_called).desc).map (fun d => d.parameters.length) = some 2 := by decide +kernel
theorem mk_X3_177 : MLk RX3 177 yX1_called cX1_called 6 (some .int) 2 := ⟨mlX3_177, im_X1_called, se_X1_called, ini_X1, co_X1_called, nd_X1_called⟩
theorem nd_X3_takeAway : (yX3_takeAway).cls ≠ "java/lang/invoke/MethodHandle" ∧ (yX3_takeAway).cls ≠ "java/lang/invoke/VarHandle" ∧ (parseMethodDescriptor (yX3_takeAway).desc).map (fun d => d.parameters.length) = some 2 := by decide +kernel
theorem mk_X3_160 : MLk RX3 160 yX3_takeAway cX3_takeAway 4 none 2 := ⟨mlX3_160, im_X3_takeAway, se_X3_takeAway, ini_X3, co_X3_takeAway, nd_X3_takeAway⟩
theorem nd_X1_become : (yX1_become).cls ≠ "java/lang/invoke/MethodHandle" ∧ (yX1_become).cls ≠ "java/lang/invoke/VarHandle" ∧ (parseMethodDescriptor (yX1_become).desc).map (fun d => d.parameters.length) = some 3 := by decide +kernel
theorem mk_X3_128 : MLk RX3 128 yX1_become cX1_become 4 none 3 := ⟨mlX3_128, im_X1_become, se_X1_become, ini_X1, co_X1_become, nd_X1_become⟩
theorem mk_X1_38 : MLk RX1 38 yX6_write cX6_write 3 none 2 := ⟨mlX1_38, im_X6_write, se_X6_write, ini_X6, co_X6_write, nd_X6_write⟩
theorem nd_X3_makeRoom : (yX3_makeRoom).cls ≠ "java/lang/invoke/MethodHandle" ∧ (yX3_makeRoom).cls ≠ "java/lang/invoke/VarHandle" ∧ (parseMethodDescriptor (yX3_makeRoom).desc).map (fun d => d.parameters.length) = some 1 := by decide +kernel
theorem mk_X3_132 : MLk RX3 132 yX3_makeRoom cX3_makeRoom 4 none 1 := ⟨mlX3_132, im_X3_makeRoom, se_X3_makeRoom, ini_X3, co_X3_makeRoom, nd_X3_makeRoom⟩
theorem nd_X3_copiesInTheWay : (yX3_copiesInTheWay).cls ≠ "java/lang/invoke/MethodHandle" ∧ (yX3_copiesInTheWay).cls ≠ "java/lang/invoke/VarHandle" ∧ (parseMethodDescriptor (yX3_copiesInTheWay).desc).map (fun d => d.parameters.length) = some 1 := by decide +kernel
theorem mk_X3_163 : MLk RX3 163 yX3_copiesInTheWay cX3_copiesInTheWay 2 (some .int) 1 := ⟨mlX3_163, im_X3_copiesInTheWay, se_X3_copiesInTheWay, ini_X3, co_X3_copiesInTheWay, nd_X3_copiesInTheWay⟩
theorem nd_Lib_Math_max_name : (Lib.Math.max.name).cls ≠ "java/lang/invoke/MethodHandle" ∧ (Lib.Math.max.name).cls ≠ "java/lang/invoke/VarHandle" ∧ (parseMethodDescriptor (Lib.Math.max.name).desc).map (fun d => d.parameters.length) = some 2 := by decide +kernel
theorem mk_X3_172 : MSk RX3 172 Lib.Math.max.name Lib.Math.max.code 2 (some .int) 2 := ⟨mlX3_172, st_ib.Math.max.name, ini_javalangMath, co_ib.Math.max.name, nd_Lib_Math_max_name⟩
theorem nd_X3_giveBack : (yX3_giveBack).cls ≠ "java/lang/invoke/MethodHandle" ∧ (yX3_giveBack).cls ≠ "java/lang/invoke/VarHandle" ∧ (parseMethodDescriptor (yX3_giveBack).desc).map (fun d => d.parameters.length) = some 2 := by decide +kernel
theorem mk_X3_166 : MLk RX3 166 yX3_giveBack cX3_giveBack 5 (some .int) 2 := ⟨mlX3_166, im_X3_giveBack, se_X3_giveBack, ini_X3, co_X3_giveBack, nd_X3_giveBack⟩
theorem nd_X7_noteAt : (yX7_noteAt).cls ≠ "java/lang/invoke/MethodHandle" ∧ (yX7_noteAt).cls ≠ "java/lang/invoke/VarHandle" ∧ (parseMethodDescriptor (yX7_noteAt).desc).map (fun d => d.parameters.length) = some 2 := by decide +kernel
theorem mk_X3_148 : MLk RX3 148 yX7_noteAt cX7_noteAt 3 (some .int) 2 := ⟨mlX3_148, im_X7_noteAt, se_X7_noteAt, ini_X7, co_X7_noteAt, nd_X7_noteAt⟩
theorem nd_X1_strike : (yX1_strike).cls ≠ "java/lang/invoke/MethodHandle" ∧ (yX1_strike).cls ≠ "java/lang/invoke/VarHandle" ∧ (parseMethodDescriptor (yX1_strike).desc).map (fun d => d.parameters.length) = some 2 := by decide +kernel
theorem mk_X3_151 : MLk RX3 151 yX1_strike cX1_strike 4 none 2 := ⟨mlX3_151, im_X1_strike, se_X1_strike, ini_X1, co_X1_strike, nd_X1_strike⟩
theorem nd_X1_name : (yX1_name).cls ≠ "java/lang/invoke/MethodHandle" ∧ (yX1_name).cls ≠ "java/lang/invoke/VarHandle" ∧ (parseMethodDescriptor (yX1_name).desc).map (fun d => d.parameters.length) = some 4 := by decide +kernel
theorem mk_X3_138 : MLk RX3 138 yX1_name cX1_name 6 none 4 := ⟨mlX3_138, im_X1_name, se_X1_name, ini_X1, co_X1_name, nd_X1_name⟩
theorem nd_J6_bitCount_0f7a4 : (yJ6_bitCount_0f7a4).cls ≠ "java/lang/invoke/MethodHandle" ∧ (yJ6_bitCount_0f7a4).cls ≠ "java/lang/invoke/VarHandle" ∧ (parseMethodDescriptor (yJ6_bitCount_0f7a4).desc).map (fun d => d.parameters.length) = some 1 := by decide +kernel
theorem mk_X1_42 : MSk RX1 42 yJ6_bitCount_0f7a4 cJ6_bitCount_0f7a4 1 (some .int) 1 := ⟨mlX1_42, st_J6_bitCount_0f7a4, ini_J6, co_J6_bitCount_0f7a4, nd_J6_bitCount_0f7a4⟩
theorem mk_X1_47 : MLk RX1 47 yX1_become cX1_become 4 none 3 := ⟨mlX1_47, im_X1_become, se_X1_become, ini_X1, co_X1_become, nd_X1_become⟩
theorem nd_X1_groupsOf : (yX1_groupsOf).cls ≠ "java/lang/invoke/MethodHandle" ∧ (yX1_groupsOf).cls ≠ "java/lang/invoke/VarHandle" ∧ (parseMethodDescriptor (yX1_groupsOf).desc).map (fun d => d.parameters.length) = some 2 := by decide +kernel
theorem mk_X1_51 : MSk RX1 51 yX1_groupsOf cX1_groupsOf 4 (some .int) 2 := ⟨mlX1_51, st_X1_groupsOf, ini_X1, co_X1_groupsOf, nd_X1_groupsOf⟩
theorem nd_X3_rewrite : (yX3_rewrite).cls ≠ "java/lang/invoke/MethodHandle" ∧ (yX3_rewrite).cls ≠ "java/lang/invoke/VarHandle" ∧ (parseMethodDescriptor (yX3_rewrite).desc).map (fun d => d.parameters.length) = some 3 := by decide +kernel
theorem mk_X8_100 : MLk RX8 100 yX3_rewrite cX3_rewrite 6 (some .int) 3 := ⟨mlX8_100, im_X3_rewrite, se_X3_rewrite, ini_X3, co_X3_rewrite, nd_X3_rewrite⟩
theorem nd_X1_isOwnedBy : (yX1_isOwnedBy).cls ≠ "java/lang/invoke/MethodHandle" ∧ (yX1_isOwnedBy).cls ≠ "java/lang/invoke/VarHandle" ∧ (parseMethodDescriptor (yX1_isOwnedBy).desc).map (fun d => d.parameters.length) = some 2 := by decide +kernel
theorem mk_X3_142 : MLk RX3 142 yX1_isOwnedBy cX1_isOwnedBy 3 (some .boolean) 2 := ⟨mlX3_142, im_X1_isOwnedBy, se_X1_isOwnedBy, ini_X1, co_X1_isOwnedBy, nd_X1_isOwnedBy⟩
theorem mk_X8_108 : MLk RX8 108 yX7_placeOf cX7_placeOf 6 (some .int) 2 := ⟨mlX8_108, im_X7_placeOf, se_X7_placeOf, ini_X7, co_X7_placeOf, nd_X7_placeOf⟩
theorem mk_X8_113 : MLk RX8 113 yX3_giveBack cX3_giveBack 5 (some .int) 2 := ⟨mlX8_113, im_X3_giveBack, se_X3_giveBack, ini_X3, co_X3_giveBack, nd_X3_giveBack⟩
theorem nd_X3_callIn : (yX3_callIn).cls ≠ "java/lang/invoke/MethodHandle" ∧ (yX3_callIn).cls ≠ "java/lang/invoke/VarHandle" ∧ (parseMethodDescriptor (yX3_callIn).desc).map (fun d => d.parameters.length) = some 1 := by decide +kernel
theorem mk_X8_116 : MLk RX8 116 yX3_callIn cX3_callIn 3 (some .int) 1 := ⟨mlX8_116, im_X3_callIn, se_X3_callIn, ini_X3, co_X3_callIn, nd_X3_callIn⟩
theorem nd_X9_read : (yX9_read).cls ≠ "java/lang/invoke/MethodHandle" ∧ (yX9_read).cls ≠ "java/lang/invoke/VarHandle" ∧ (parseMethodDescriptor (yX9_read).desc).map (fun d => d.parameters.length) = some 2 := by decide +kernel
theorem mk_L_21 : MLk RL 21 yX9_read cX9_read 3 (some .int) 2 := ⟨mlL_21, im_X9_read, se_X9_read, ini_X9, co_X9_read, nd_X9_read⟩
theorem nd_X9_tryRead : (yX9_tryRead).cls ≠ "java/lang/invoke/MethodHandle" ∧ (yX9_tryRead).cls ≠ "java/lang/invoke/VarHandle" ∧ (parseMethodDescriptor (yX9_tryRead).desc).map (fun d => d.parameters.length) = some 3 := by decide +kernel
theorem mk_X9_146 : MLk RX9 146 yX9_tryRead cX9_tryRead 4 (some .int) 3 := ⟨mlX9_146, im_X9_tryRead, se_X9_tryRead, ini_X9, co_X9_tryRead, nd_X9_tryRead⟩
theorem nd_X9_isReader : (yX9_isReader).cls ≠ "java/lang/invoke/MethodHandle" ∧ (yX9_isReader).cls ≠ "java/lang/invoke/VarHandle" ∧ (parseMethodDescriptor (yX9_isReader).desc).map (fun d => d.parameters.length) = some 1 := by decide +kernel
theorem mk_X9_129 : MSk RX9 129 yX9_isReader cX9_isReader 1 (some .boolean) 1 := ⟨mlX9_129, st_X9_isReader, ini_X9, co_X9_isReader, nd_X9_isReader⟩
theorem nd_X9_isNote : (yX9_isNote).cls ≠ "java/lang/invoke/MethodHandle" ∧ (yX9_isNote).cls ≠ "java/lang/invoke/VarHandle" ∧ (parseMethodDescriptor (yX9_isNote).desc).map (fun d => d.parameters.length) = some 1 := by decide +kernel
theorem mk_X9_133 : MSk RX9 133 yX9_isNote cX9_isNote 1 (some .boolean) 1 := ⟨mlX9_133, st_X9_isNote, ini_X9, co_X9_isNote, nd_X9_isNote⟩
theorem nd_X9_keepIf : (yX9_keepIf).cls ≠ "java/lang/invoke/MethodHandle" ∧ (yX9_keepIf).cls ≠ "java/lang/invoke/VarHandle" ∧ (parseMethodDescriptor (yX9_keepIf).desc).map (fun d => d.parameters.length) = some 1 := by decide +kernel
theorem mk_X9_136 : MLk RX9 136 yX9_keepIf cX9_keepIf 2 none 1 := ⟨mlX9_136, im_X9_keepIf, se_X9_keepIf, ini_X9, co_X9_keepIf, nd_X9_keepIf⟩
theorem nd_X9_enter : (yX9_enter).cls ≠ "java/lang/invoke/MethodHandle" ∧ (yX9_enter).cls ≠ "java/lang/invoke/VarHandle" ∧ (parseMethodDescriptor (yX9_enter).desc).map (fun d => d.parameters.length) = some 3 := by decide +kernel
theorem mk_X9_140 : MLk RX9 140 yX9_enter cX9_enter 5 none 3 := ⟨mlX9_140, im_X9_enter, se_X9_enter, ini_X9, co_X9_enter, nd_X9_enter⟩
theorem nd_X9_reads : (yX9_reads).cls ≠ "java/lang/invoke/MethodHandle" ∧ (yX9_reads).cls ≠ "java/lang/invoke/VarHandle" ∧ (parseMethodDescriptor (yX9_reads).desc).map (fun d => d.parameters.length) = some 2 := by decide +kernel
theorem mk_X9_143 : MLk RX9 143 yX9_reads cX9_reads 4 (some .int) 2 := ⟨mlX9_143, im_X9_reads, se_X9_reads, ini_X9, co_X9_reads, nd_X9_reads⟩
theorem nd_X9_moreR : (yX9_moreR).cls ≠ "java/lang/invoke/MethodHandle" ∧ (yX9_moreR).cls ≠ "java/lang/invoke/VarHandle" ∧ (parseMethodDescriptor (yX9_moreR).desc).map (fun d => d.parameters.length) = some 3 := by decide +kernel
theorem mk_X9_57 : MLk RX9 57 yX9_moreR cX9_moreR 4 none 3 := ⟨mlX9_57, im_X9_moreR, se_X9_moreR, ini_X9, co_X9_moreR, nd_X9_moreR⟩
theorem nd_X9_placeOf : (yX9_placeOf).cls ≠ "java/lang/invoke/MethodHandle" ∧ (yX9_placeOf).cls ≠ "java/lang/invoke/VarHandle" ∧ (parseMethodDescriptor (yX9_placeOf).desc).map (fun d => d.parameters.length) = some 2 := by decide +kernel
theorem mk_X9_95 : MLk RX9 95 yX9_placeOf cX9_placeOf 4 (some .int) 2 := ⟨mlX9_95, im_X9_placeOf, se_X9_placeOf, ini_X9, co_X9_placeOf, nd_X9_placeOf⟩
theorem nd_X9_ofR : (yX9_ofR).cls ≠ "java/lang/invoke/MethodHandle" ∧ (yX9_ofR).cls ≠ "java/lang/invoke/VarHandle" ∧ (parseMethodDescriptor (yX9_ofR).desc).map (fun d => d.parameters.length) = some 2 := by decide +kernel
theorem mk_X9_49 : MLk RX9 49 yX9_ofR cX9_ofR 3 (some .int) 2 := ⟨mlX9_49, im_X9_ofR, se_X9_ofR, ini_X9, co_X9_ofR, nd_X9_ofR⟩
theorem nd_X9_ofC : (yX9_ofC).cls ≠ "java/lang/invoke/MethodHandle" ∧ (yX9_ofC).cls ≠ "java/lang/invoke/VarHandle" ∧ (parseMethodDescriptor (yX9_ofC).desc).map (fun d => d.parameters.length) = some 3 := by decide +kernel
theorem mk_X9_53 : MLk RX9 53 yX9_ofC cX9_ofC 4 (some .int) 3 := ⟨mlX9_53, im_X9_ofC, se_X9_ofC, ini_X9, co_X9_ofC, nd_X9_ofC⟩
theorem nd_X9_use : (yX9_use).cls ≠ "java/lang/invoke/MethodHandle" ∧ (yX9_use).cls ≠ "java/lang/invoke/VarHandle" ∧ (parseMethodDescriptor (yX9_use).desc).map (fun d => d.parameters.length) = some 2 := by decide +kernel
theorem mk_X9_117 : MLk RX9 117 yX9_use cX9_use 6 none 2 := ⟨mlX9_117, im_X9_use, se_X9_use, ini_X9, co_X9_use, nd_X9_use⟩
theorem nd_X9_takeOff : (yX9_takeOff).cls ≠ "java/lang/invoke/MethodHandle" ∧ (yX9_takeOff).cls ≠ "java/lang/invoke/VarHandle" ∧ (parseMethodDescriptor (yX9_takeOff).desc).map (fun d => d.parameters.length) = some 2 := by decide +kernel
theorem mk_X9_65 : MLk RX9 65 yX9_takeOff cX9_takeOff 4 none 2 := ⟨mlX9_65, im_X9_takeOff, se_X9_takeOff, ini_X9, co_X9_takeOff, nd_X9_takeOff⟩
theorem nd_X9_layOn : (yX9_layOn).cls ≠ "java/lang/invoke/MethodHandle" ∧ (yX9_layOn).cls ≠ "java/lang/invoke/VarHandle" ∧ (parseMethodDescriptor (yX9_layOn).desc).map (fun d => d.parameters.length) = some 4 := by decide +kernel
theorem mk_X9_69 : MLk RX9 69 yX9_layOn cX9_layOn 6 none 4 := ⟨mlX9_69, im_X9_layOn, se_X9_layOn, ini_X9, co_X9_layOn, nd_X9_layOn⟩
theorem nd_X9_layC : (yX9_layC).cls ≠ "java/lang/invoke/MethodHandle" ∧ (yX9_layC).cls ≠ "java/lang/invoke/VarHandle" ∧ (parseMethodDescriptor (yX9_layC).desc).map (fun d => d.parameters.length) = some 4 := by decide +kernel
theorem mk_X9_61 : MLk RX9 61 yX9_layC cX9_layC 5 none 4 := ⟨mlX9_61, im_X9_layC, se_X9_layC, ini_X9, co_X9_layC, nd_X9_layC⟩
theorem nd_X9_callBackBut : (yX9_callBackBut).cls ≠ "java/lang/invoke/MethodHandle" ∧ (yX9_callBackBut).cls ≠ "java/lang/invoke/VarHandle" ∧ (parseMethodDescriptor (yX9_callBackBut).desc).map (fun d => d.parameters.length) = some 2 := by decide +kernel
theorem mk_X9_120 : MLk RX9 120 yX9_callBackBut cX9_callBackBut 6 none 2 := ⟨mlX9_120, im_X9_callBackBut, se_X9_callBackBut, ini_X9, co_X9_callBackBut, nd_X9_callBackBut⟩
theorem nd_X9_called : (yX9_called).cls ≠ "java/lang/invoke/MethodHandle" ∧ (yX9_called).cls ≠ "java/lang/invoke/VarHandle" ∧ (parseMethodDescriptor (yX9_called).desc).map (fun d => d.parameters.length) = some 1 := by decide +kernel
theorem mk_X9_101 : MLk RX9 101 yX9_called cX9_called 5 (some .int) 1 := ⟨mlX9_101, im_X9_called, se_X9_called, ini_X9, co_X9_called, nd_X9_called⟩
theorem nd_X9_group : (yX9_group).cls ≠ "java/lang/invoke/MethodHandle" ∧ (yX9_group).cls ≠ "java/lang/invoke/VarHandle" ∧ (parseMethodDescriptor (yX9_group).desc).map (fun d => d.parameters.length) = some 1 := by decide +kernel
theorem mk_X9_78 : MLk RX9 78 yX9_group cX9_group 2 (some .int) 1 := ⟨mlX9_78, im_X9_group, se_X9_group, ini_X9, co_X9_group, nd_X9_group⟩
theorem nd_X9_has : (yX9_has).cls ≠ "java/lang/invoke/MethodHandle" ∧ (yX9_has).cls ≠ "java/lang/invoke/VarHandle" ∧ (parseMethodDescriptor (yX9_has).desc).map (fun d => d.parameters.length) = some 2 := by decide +kernel
theorem mk_X9_82 : MSk RX9 82 yX9_has cX9_has 2 (some .boolean) 2 := ⟨mlX9_82, st_X9_has, ini_X9, co_X9_has, nd_X9_has⟩
theorem nd_X9_callBack : (yX9_callBack).cls ≠ "java/lang/invoke/MethodHandle" ∧ (yX9_callBack).cls ≠ "java/lang/invoke/VarHandle" ∧ (parseMethodDescriptor (yX9_callBack).desc).map (fun d => d.parameters.length) = some 2 := by decide +kernel
theorem mk_X9_104 : MLk RX9 104 yX9_callBack cX9_callBack 4 none 2 := ⟨mlX9_104, im_X9_callBack, se_X9_callBack, ini_X9, co_X9_callBack, nd_X9_callBack⟩
theorem nd_X9_giveBack : (yX9_giveBack).cls ≠ "java/lang/invoke/MethodHandle" ∧ (yX9_giveBack).cls ≠ "java/lang/invoke/VarHandle" ∧ (parseMethodDescriptor (yX9_giveBack).desc).map (fun d => d.parameters.length) = some 2 := by decide +kernel
theorem mk_X9_98 : MLk RX9 98 yX9_giveBack cX9_giveBack 3 none 2 := ⟨mlX9_98, im_X9_giveBack, se_X9_giveBack, ini_X9, co_X9_giveBack, nd_X9_giveBack⟩
theorem nd_X9_layN : (yX9_layN).cls ≠ "java/lang/invoke/MethodHandle" ∧ (yX9_layN).cls ≠ "java/lang/invoke/VarHandle" ∧ (parseMethodDescriptor (yX9_layN).desc).map (fun d => d.parameters.length) = some 3 := by decide +kernel
theorem mk_X9_72 : MLk RX9 72 yX9_layN cX9_layN 4 none 3 := ⟨mlX9_72, im_X9_layN, se_X9_layN, ini_X9, co_X9_layN, nd_X9_layN⟩
theorem nd_X9_layCard : (yX9_layCard).cls ≠ "java/lang/invoke/MethodHandle" ∧ (yX9_layCard).cls ≠ "java/lang/invoke/VarHandle" ∧ (parseMethodDescriptor (yX9_layCard).desc).map (fun d => d.parameters.length) = some 3 := by decide +kernel
theorem mk_X9_86 : MLk RX9 86 yX9_layCard cX9_layCard 4 none 3 := ⟨mlX9_86, im_X9_layCard, se_X9_layCard, ini_X9, co_X9_layCard, nd_X9_layCard⟩
theorem nd_X9_ask : (yX9_ask).cls ≠ "java/lang/invoke/MethodHandle" ∧ (yX9_ask).cls ≠ "java/lang/invoke/VarHandle" ∧ (parseMethodDescriptor (yX9_ask).desc).map (fun d => d.parameters.length) = some 2 := by decide +kernel
theorem mk_X9_123 : MLk RX9 123 yX9_ask cX9_ask 3 none 2 := ⟨mlX9_123, im_X9_ask, se_X9_ask, ini_X9, co_X9_ask, nd_X9_ask⟩
theorem nd_X9_makeRoom : (yX9_makeRoom).cls ≠ "java/lang/invoke/MethodHandle" ∧ (yX9_makeRoom).cls ≠ "java/lang/invoke/VarHandle" ∧ (parseMethodDescriptor (yX9_makeRoom).desc).map (fun d => d.parameters.length) = some 1 := by decide +kernel
theorem mk_X9_113 : MLk RX9 113 yX9_makeRoom cX9_makeRoom 2 none 1 := ⟨mlX9_113, im_X9_makeRoom, se_X9_makeRoom, ini_X9, co_X9_makeRoom, nd_X9_makeRoom⟩
theorem nd_X9_returned : (yX9_returned).cls ≠ "java/lang/invoke/MethodHandle" ∧ (yX9_returned).cls ≠ "java/lang/invoke/VarHandle" ∧ (parseMethodDescriptor (yX9_returned).desc).map (fun d => d.parameters.length) = some 2 := by decide +kernel
theorem mk_X9_110 : MLk RX9 110 yX9_returned cX9_returned 5 (some .int) 2 := ⟨mlX9_110, im_X9_returned, se_X9_returned, ini_X9, co_X9_returned, nd_X9_returned⟩
theorem nd_X9_strike : (yX9_strike).cls ≠ "java/lang/invoke/MethodHandle" ∧ (yX9_strike).cls ≠ "java/lang/invoke/VarHandle" ∧ (parseMethodDescriptor (yX9_strike).desc).map (fun d => d.parameters.length) = some 2 := by decide +kernel
theorem mk_X9_107 : MLk RX9 107 yX9_strike cX9_strike 4 none 2 := ⟨mlX9_107, im_X9_strike, se_X9_strike, ini_X9, co_X9_strike, nd_X9_strike⟩
theorem nd_X9_writeOn : (yX9_writeOn).cls ≠ "java/lang/invoke/MethodHandle" ∧ (yX9_writeOn).cls ≠ "java/lang/invoke/VarHandle" ∧ (parseMethodDescriptor (yX9_writeOn).desc).map (fun d => d.parameters.length) = some 2 := by decide +kernel
theorem mk_X9_126 : MLk RX9 126 yX9_writeOn cX9_writeOn 5 none 2 := ⟨mlX9_126, im_X9_writeOn, se_X9_writeOn, ini_X9, co_X9_writeOn, nd_X9_writeOn⟩
theorem nd_X9_many : (yX9_many).cls ≠ "java/lang/invoke/MethodHandle" ∧ (yX9_many).cls ≠ "java/lang/invoke/VarHandle" ∧ (parseMethodDescriptor (yX9_many).desc).map (fun d => d.parameters.length) = some 1 := by decide +kernel
theorem mk_X9_89 : MSk RX9 89 yX9_many cX9_many 3 (some .int) 1 := ⟨mlX9_89, st_X9_many, ini_X9, co_X9_many, nd_X9_many⟩
theorem nd_X9_groupsOf : (yX9_groupsOf).cls ≠ "java/lang/invoke/MethodHandle" ∧ (yX9_groupsOf).cls ≠ "java/lang/invoke/VarHandle" ∧ (parseMethodDescriptor (yX9_groupsOf).desc).map (fun d => d.parameters.length) = some 1 := by decide +kernel
theorem mk_X9_92 : MLk RX9 92 yX9_groupsOf cX9_groupsOf 4 (some .int) 1 := ⟨mlX9_92, im_X9_groupsOf, se_X9_groupsOf, ini_X9, co_X9_groupsOf, nd_X9_groupsOf⟩
theorem nd_X8_change : (yX8_change).cls ≠ "java/lang/invoke/MethodHandle" ∧ (yX8_change).cls ≠ "java/lang/invoke/VarHandle" ∧ (parseMethodDescriptor (yX8_change).desc).map (fun d => d.parameters.length) = some 3 := by decide +kernel
theorem mk_L_22 : MLk RL 22 yX8_change cX8_change 4 (some .int) 3 := ⟨mlL_22, im_X8_change, se_X8_change, ini_X8, co_X8_change, nd_X8_change⟩
theorem nd_X9_change : (yX9_change).cls ≠ "java/lang/invoke/MethodHandle" ∧ (yX9_change).cls ≠ "java/lang/invoke/VarHandle" ∧ (parseMethodDescriptor (yX9_change).desc).map (fun d => d.parameters.length) = some 3 := by decide +kernel
theorem mk_L_26 : MLk RL 26 yX9_change cX9_change 4 (some .int) 3 := ⟨mlL_26, im_X9_change, se_X9_change, ini_X9, co_X9_change, nd_X9_change⟩
theorem nd_X9_tryChange : (yX9_tryChange).cls ≠ "java/lang/invoke/MethodHandle" ∧ (yX9_tryChange).cls ≠ "java/lang/invoke/VarHandle" ∧ (parseMethodDescriptor (yX9_tryChange).desc).map (fun d => d.parameters.length) = some 4 := by decide +kernel
theorem mk_X9_153 : MLk RX9 153 yX9_tryChange cX9_tryChange 5 (some .int) 4 := ⟨mlX9_153, im_X9_tryChange, se_X9_tryChange, ini_X9, co_X9_tryChange, nd_X9_tryChange⟩
theorem nd_X9_changes : (yX9_changes).cls ≠ "java/lang/invoke/MethodHandle" ∧ (yX9_changes).cls ≠ "java/lang/invoke/VarHandle" ∧ (parseMethodDescriptor (yX9_changes).desc).map (fun d => d.parameters.length) = some 3 := by decide +kernel
theorem mk_X9_150 : MLk RX9 150 yX9_changes cX9_changes 6 (some .int) 3 := ⟨mlX9_150, im_X9_changes, se_X9_changes, ini_X9, co_X9_changes, nd_X9_changes⟩
theorem nd_X8_putBack : (yX8_putBack).cls ≠ "java/lang/invoke/MethodHandle" ∧ (yX8_putBack).cls ≠ "java/lang/invoke/VarHandle" ∧ (parseMethodDescriptor (yX8_putBack).desc).map (fun d => d.parameters.length) = some 2 := by decide +kernel
theorem mk_L_27 : MLk RL 27 yX8_putBack cX8_putBack 3 (some .int) 2 := ⟨mlL_27, im_X8_putBack, se_X8_putBack, ini_X8, co_X8_putBack, nd_X8_putBack⟩
theorem nd_X9_putBack : (yX9_putBack).cls ≠ "java/lang/invoke/MethodHandle" ∧ (yX9_putBack).cls ≠ "java/lang/invoke/VarHandle" ∧ (parseMethodDescriptor (yX9_putBack).desc).map (fun d => d.parameters.length) = some 2 := by decide +kernel
theorem mk_L_30 : MLk RL 30 yX9_putBack cX9_putBack 3 (some .int) 2 := ⟨mlL_30, im_X9_putBack, se_X9_putBack, ini_X9, co_X9_putBack, nd_X9_putBack⟩
theorem nd_X9_tryPutBack : (yX9_tryPutBack).cls ≠ "java/lang/invoke/MethodHandle" ∧ (yX9_tryPutBack).cls ≠ "java/lang/invoke/VarHandle" ∧ (parseMethodDescriptor (yX9_tryPutBack).desc).map (fun d => d.parameters.length) = some 3 := by decide +kernel
theorem mk_X9_157 : MLk RX9 157 yX9_tryPutBack cX9_tryPutBack 5 (some .int) 3 := ⟨mlX9_157, im_X9_tryPutBack, se_X9_tryPutBack, ini_X9, co_X9_tryPutBack, nd_X9_tryPutBack⟩
theorem nd_X8_recall : (yX8_recall).cls ≠ "java/lang/invoke/MethodHandle" ∧ (yX8_recall).cls ≠ "java/lang/invoke/VarHandle" ∧ (parseMethodDescriptor (yX8_recall).desc).map (fun d => d.parameters.length) = some 1 := by decide +kernel
theorem mk_L_31 : MLk RL 31 yX8_recall cX8_recall 2 (some .int) 1 := ⟨mlL_31, im_X8_recall, se_X8_recall, ini_X8, co_X8_recall, nd_X8_recall⟩
theorem nd_X9_recall : (yX9_recall).cls ≠ "java/lang/invoke/MethodHandle" ∧ (yX9_recall).cls ≠ "java/lang/invoke/VarHandle" ∧ (parseMethodDescriptor (yX9_recall).desc).map (fun d => d.parameters.length) = some 1 := by decide +kernel
theorem mk_L_35 : MLk RL 35 yX9_recall cX9_recall 2 (some .int) 1 := ⟨mlL_35, im_X9_recall, se_X9_recall, ini_X9, co_X9_recall, nd_X9_recall⟩
theorem nd_X9_tryRecall : (yX9_tryRecall).cls ≠ "java/lang/invoke/MethodHandle" ∧ (yX9_tryRecall).cls ≠ "java/lang/invoke/VarHandle" ∧ (parseMethodDescriptor (yX9_tryRecall).desc).map (fun d => d.parameters.length) = some 2 := by decide +kernel
theorem mk_X9_160 : MLk RX9 160 yX9_tryRecall cX9_tryRecall 4 (some .int) 2 := ⟨mlX9_160, im_X9_tryRecall, se_X9_tryRecall, ini_X9, co_X9_tryRecall, nd_X9_tryRecall⟩
theorem nd_X8_ofNote : (yX8_ofNote).cls ≠ "java/lang/invoke/MethodHandle" ∧ (yX8_ofNote).cls ≠ "java/lang/invoke/VarHandle" ∧ (parseMethodDescriptor (yX8_ofNote).desc).map (fun d => d.parameters.length) = some 2 := by decide +kernel
theorem mk_L_36 : MLk RL 36 yX8_ofNote cX8_ofNote 5 (some .int) 2 := ⟨mlL_36, im_X8_ofNote, se_X8_ofNote, ini_X8, co_X8_ofNote, nd_X8_ofNote⟩
theorem nd_X8_isNote : (yX8_isNote).cls ≠ "java/lang/invoke/MethodHandle" ∧ (yX8_isNote).cls ≠ "java/lang/invoke/VarHandle" ∧ (parseMethodDescriptor (yX8_isNote).desc).map (fun d => d.parameters.length) = some 1 := by decide +kernel
theorem mk_X8_119 : MSk RX8 119 yX8_isNote cX8_isNote 1 (some .boolean) 1 := ⟨mlX8_119, st_X8_isNote, ini_X8, co_X8_isNote, nd_X8_isNote⟩
theorem mk_X8_123 : MLk RX8 123 yX3_called cX3_called 2 (some .int) 1 := ⟨mlX8_123, im_X3_called, se_X3_called, ini_X3, co_X3_called, nd_X3_called⟩
theorem mk_X8_138 : MSk RX8 138 yJ6_bitCount_0f7a4 cJ6_bitCount_0f7a4 1 (some .int) 1 := ⟨mlX8_138, st_J6_bitCount_0f7a4, ini_J6, co_J6_bitCount_0f7a4, nd_J6_bitCount_0f7a4⟩
theorem nd_X3_valueToRead : (yX3_valueToRead).cls ≠ "java/lang/invoke/MethodHandle" ∧ (yX3_valueToRead).cls ≠ "java/lang/invoke/VarHandle" ∧ (parseMethodDescriptor (yX3_valueToRead).desc).map (fun d => d.parameters.length) = some 1 := by decide +kernel
theorem mk_X8_143 : MLk RX8 143 yX3_valueToRead cX3_valueToRead 3 (some .int) 1 := ⟨mlX8_143, im_X3_valueToRead, se_X3_valueToRead, ini_X3, co_X3_valueToRead, nd_X3_valueToRead⟩
theorem nd_X9_ofNote : (yX9_ofNote).cls ≠ "java/lang/invoke/MethodHandle" ∧ (yX9_ofNote).cls ≠ "java/lang/invoke/VarHandle" ∧ (parseMethodDescriptor (yX9_ofNote).desc).map (fun d => d.parameters.length) = some 2 := by decide +kernel
theorem mk_L_39 : MLk RL 39 yX9_ofNote cX9_ofNote 3 (some .int) 2 := ⟨mlL_39, im_X9_ofNote, se_X9_ofNote, ini_X9, co_X9_ofNote, nd_X9_ofNote⟩
theorem nd_X9_holders : (yX9_holders).cls ≠ "java/lang/invoke/MethodHandle" ∧ (yX9_holders).cls ≠ "java/lang/invoke/VarHandle" ∧ (parseMethodDescriptor (yX9_holders).desc).map (fun d => d.parameters.length) = some 1 := by decide +kernel
theorem mk_X9_167 : MLk RX9 167 yX9_holders cX9_holders 4 (some .int) 1 := ⟨mlX9_167, im_X9_holders, se_X9_holders, ini_X9, co_X9_holders, nd_X9_holders⟩
theorem nd_X9_valueNow : (yX9_valueNow).cls ≠ "java/lang/invoke/MethodHandle" ∧ (yX9_valueNow).cls ≠ "java/lang/invoke/VarHandle" ∧ (parseMethodDescriptor (yX9_valueNow).desc).map (fun d => d.parameters.length) = some 1 := by decide +kernel
theorem mk_X9_170 : MLk RX9 170 yX9_valueNow cX9_valueNow 5 (some .int) 1 := ⟨mlX9_170, im_X9_valueNow, se_X9_valueNow, ini_X9, co_X9_valueNow, nd_X9_valueNow⟩
theorem nd_X8_onShelf : (yX8_onShelf).cls ≠ "java/lang/invoke/MethodHandle" ∧ (yX8_onShelf).cls ≠ "java/lang/invoke/VarHandle" ∧ (parseMethodDescriptor (yX8_onShelf).desc).map (fun d => d.parameters.length) = some 3 := by decide +kernel
theorem mk_L_40 : MLk RL 40 yX8_onShelf cX8_onShelf 4 (some .int) 3 := ⟨mlL_40, im_X8_onShelf, se_X8_onShelf, ini_X8, co_X8_onShelf, nd_X8_onShelf⟩
theorem nd_X8_isReader : (yX8_isReader).cls ≠ "java/lang/invoke/MethodHandle" ∧ (yX8_isReader).cls ≠ "java/lang/invoke/VarHandle" ∧ (parseMethodDescriptor (yX8_isReader).desc).map (fun d => d.parameters.length) = some 1 := by decide +kernel
theorem mk_X8_152 : MSk RX8 152 yX8_isReader cX8_isReader 1 (some .boolean) 1 := ⟨mlX8_152, st_X8_isReader, ini_X8, co_X8_isReader, nd_X8_isReader⟩
theorem mk_X8_158 : MLk RX8 158 yX7_noteAt cX7_noteAt 3 (some .int) 2 := ⟨mlX8_158, im_X7_noteAt, se_X7_noteAt, ini_X7, co_X7_noteAt, nd_X7_noteAt⟩
theorem mk_X8_161 : MLk RX8 161 yX7_valueAt cX7_valueAt 3 (some .int) 2 := ⟨mlX8_161, im_X7_valueAt, se_X7_valueAt, ini_X7, co_X7_valueAt, nd_X7_valueAt⟩
theorem mk_X8_164 : MLk RX8 164 yX7_isChangedAt cX7_isChangedAt 3 (some .boolean) 2 := ⟨mlX8_164, im_X7_isChangedAt, se_X7_isChangedAt, ini_X7, co_X7_isChangedAt, nd_X7_isChangedAt⟩
theorem nd_X9_onShelf : (yX9_onShelf).cls ≠ "java/lang/invoke/MethodHandle" ∧ (yX9_onShelf).cls ≠ "java/lang/invoke/VarHandle" ∧ (parseMethodDescriptor (yX9_onShelf).desc).map (fun d => d.parameters.length) = some 3 := by decide +kernel
theorem mk_L_43 : MLk RL 43 yX9_onShelf cX9_onShelf 4 (some .int) 3 := ⟨mlL_43, im_X9_onShelf, se_X9_onShelf, ini_X9, co_X9_onShelf, nd_X9_onShelf⟩
theorem nd_X8_ofReader : (yX8_ofReader).cls ≠ "java/lang/invoke/MethodHandle" ∧ (yX8_ofReader).cls ≠ "java/lang/invoke/VarHandle" ∧ (parseMethodDescriptor (yX8_ofReader).desc).map (fun d => d.parameters.length) = some 2 := by decide +kernel
theorem mk_L_44 : MLk RL 44 yX8_ofReader cX8_ofReader 3 (some .int) 2 := ⟨mlL_44, im_X8_ofReader, se_X8_ofReader, ini_X8, co_X8_ofReader, nd_X8_ofReader⟩
theorem nd_X8_groupOf : (yX8_groupOf).cls ≠ "java/lang/invoke/MethodHandle" ∧ (yX8_groupOf).cls ≠ "java/lang/invoke/VarHandle" ∧ (parseMethodDescriptor (yX8_groupOf).desc).map (fun d => d.parameters.length) = some 2 := by decide +kernel
theorem mk_X8_167 : MSk RX8 167 yX8_groupOf cX8_groupOf 2 (some .int) 2 := ⟨mlX8_167, st_X8_groupOf, ini_X8, co_X8_groupOf, nd_X8_groupOf⟩
theorem nd_X3_notesThatCall : (yX3_notesThatCall).cls ≠ "java/lang/invoke/MethodHandle" ∧ (yX3_notesThatCall).cls ≠ "java/lang/invoke/VarHandle" ∧ (parseMethodDescriptor (yX3_notesThatCall).desc).map (fun d => d.parameters.length) = some 1 := by decide +kernel
theorem mk_X8_182 : MLk RX8 182 yX3_notesThatCall cX3_notesThatCall 4 (some .int) 1 := ⟨mlX8_182, im_X3_notesThatCall, se_X3_notesThatCall, ini_X3, co_X3_notesThatCall, nd_X3_notesThatCall⟩
theorem nd_X9_ofReader : (yX9_ofReader).cls ≠ "java/lang/invoke/MethodHandle" ∧ (yX9_ofReader).cls ≠ "java/lang/invoke/VarHandle" ∧ (parseMethodDescriptor (yX9_ofReader).desc).map (fun d => d.parameters.length) = some 2 := by decide +kernel
theorem mk_L_47 : MLk RL 47 yX9_ofReader cX9_ofReader 3 (some .int) 2 := ⟨mlL_47, im_X9_ofReader, se_X9_ofReader, ini_X9, co_X9_ofReader, nd_X9_ofReader⟩
theorem nd_X9_callers : (yX9_callers).cls ≠ "java/lang/invoke/MethodHandle" ∧ (yX9_callers).cls ≠ "java/lang/invoke/VarHandle" ∧ (parseMethodDescriptor (yX9_callers).desc).map (fun d => d.parameters.length) = some 1 := by decide +kernel
theorem mk_X9_173 : MLk RX9 173 yX9_callers cX9_callers 4 (some .int) 1 := ⟨mlX9_173, im_X9_callers, se_X9_callers, ini_X9, co_X9_callers, nd_X9_callers⟩
theorem nd_X8_count : (yX8_count).cls ≠ "java/lang/invoke/MethodHandle" ∧ (yX8_count).cls ≠ "java/lang/invoke/VarHandle" ∧ (parseMethodDescriptor (yX8_count).desc).map (fun d => d.parameters.length) = some 1 := by decide +kernel
theorem mk_L_48 : MLk RL 48 yX8_count cX8_count 2 (some .int) 1 := ⟨mlL_48, im_X8_count, se_X8_count, ini_X8, co_X8_count, nd_X8_count⟩
theorem nd_X7_howMany : (yX7_howMany).cls ≠ "java/lang/invoke/MethodHandle" ∧ (yX7_howMany).cls ≠ "java/lang/invoke/VarHandle" ∧ (parseMethodDescriptor (yX7_howMany).desc).map (fun d => d.parameters.length) = some 0 := by decide +kernel
theorem mk_X8_188 : MLk RX8 188 yX7_howMany cX7_howMany 3 (some .int) 0 := ⟨mlX8_188, im_X7_howMany, se_X7_howMany, ini_X7, co_X7_howMany, nd_X7_howMany⟩
theorem nd_X7_howManyChanged : (yX7_howManyChanged).cls ≠ "java/lang/invoke/MethodHandle" ∧ (yX7_howManyChanged).cls ≠ "java/lang/invoke/VarHandle" ∧ (parseMethodDescriptor (yX7_howManyChanged).desc).map (fun d => d.parameters.length) = some 0 := by decide +kernel
theorem mk_X8_191 : MLk RX8 191 yX7_howManyChanged cX7_howManyChanged 5 (some .int) 0 := ⟨mlX8_191, im_X7_howManyChanged, se_X7_howManyChanged, ini_X7, co_X7_howManyChanged, nd_X7_howManyChanged⟩
theorem mk_X7_47 : MLk RX7 47 yX7_isChangedAt cX7_isChangedAt 3 (some .boolean) 2 := ⟨mlX7_47, im_X7_isChangedAt, se_X7_isChangedAt, ini_X7, co_X7_isChangedAt, nd_X7_isChangedAt⟩
theorem nd_X1_howManyGrouped : (yX1_howManyGrouped).cls ≠ "java/lang/invoke/MethodHandle" ∧ (yX1_howManyGrouped).cls ≠ "java/lang/invoke/VarHandle" ∧ (parseMethodDescriptor (yX1_howManyGrouped).desc).map (fun d => d.parameters.length) = some 0 := by decide +kernel
theorem mk_X8_194 : MLk RX8 194 yX1_howManyGrouped cX1_howManyGrouped 3 (some .int) 0 := ⟨mlX8_194, im_X1_howManyGrouped, se_X1_howManyGrouped, ini_X1, co_X1_howManyGrouped, nd_X1_howManyGrouped⟩
theorem nd_X9_count : (yX9_count).cls ≠ "java/lang/invoke/MethodHandle" ∧ (yX9_count).cls ≠ "java/lang/invoke/VarHandle" ∧ (parseMethodDescriptor (yX9_count).desc).map (fun d => d.parameters.length) = some 1 := by decide +kernel
theorem mk_L_51 : MLk RL 51 yX9_count cX9_count 2 (some .int) 1 := ⟨mlL_51, im_X9_count, se_X9_count, ini_X9, co_X9_count, nd_X9_count⟩
theorem nd_X9_copies : (yX9_copies).cls ≠ "java/lang/invoke/MethodHandle" ∧ (yX9_copies).cls ≠ "java/lang/invoke/VarHandle" ∧ (parseMethodDescriptor (yX9_copies).desc).map (fun d => d.parameters.length) = some 1 := by decide +kernel
theorem mk_X9_176 : MLk RX9 176 yX9_copies cX9_copies 5 (some .int) 1 := ⟨mlX9_176, im_X9_copies, se_X9_copies, ini_X9, co_X9_copies, nd_X9_copies⟩
theorem nd_X8_costOfReading : (yX8_costOfReading).cls ≠ "java/lang/invoke/MethodHandle" ∧ (yX8_costOfReading).cls ≠ "java/lang/invoke/VarHandle" ∧ (parseMethodDescriptor (yX8_costOfReading).desc).map (fun d => d.parameters.length) = some 2 := by decide +kernel
theorem mk_L_52 : MLk RL 52 yX8_costOfReading cX8_costOfReading 3 (some .int) 2 := ⟨mlL_52, im_X8_costOfReading, se_X8_costOfReading, ini_X8, co_X8_costOfReading, nd_X8_costOfReading⟩
theorem nd_X3_messagesToRead : (yX3_messagesToRead).cls ≠ "java/lang/invoke/MethodHandle" ∧ (yX3_messagesToRead).cls ≠ "java/lang/invoke/VarHandle" ∧ (parseMethodDescriptor (yX3_messagesToRead).desc).map (fun d => d.parameters.length) = some 2 := by decide +kernel
theorem mk_X8_202 : MLk RX8 202 yX3_messagesToRead cX3_messagesToRead 4 (some .int) 2 := ⟨mlX8_202, im_X3_messagesToRead, se_X3_messagesToRead, ini_X3, co_X3_messagesToRead, nd_X3_messagesToRead⟩
theorem nd_X3_messagesToMakeRoom : (yX3_messagesToMakeRoom).cls ≠ "java/lang/invoke/MethodHandle" ∧ (yX3_messagesToMakeRoom).cls ≠ "java/lang/invoke/VarHandle" ∧ (parseMethodDescriptor (yX3_messagesToMakeRoom).desc).map (fun d => d.parameters.length) = some 1 := by decide +kernel
theorem mk_X3_179 : MLk RX3 179 yX3_messagesToMakeRoom cX3_messagesToMakeRoom 5 (some .int) 1 := ⟨mlX3_179, im_X3_messagesToMakeRoom, se_X3_messagesToMakeRoom, ini_X3, co_X3_messagesToMakeRoom, nd_X3_messagesToMakeRoom⟩
theorem nd_X9_costOfReading : (yX9_costOfReading).cls ≠ "java/lang/invoke/MethodHandle" ∧ (yX9_costOfReading).cls ≠ "java/lang/invoke/VarHandle" ∧ (parseMethodDescriptor (yX9_costOfReading).desc).map (fun d => d.parameters.length) = some 2 := by decide +kernel
theorem mk_L_55 : MLk RL 55 yX9_costOfReading cX9_costOfReading 5 (some .int) 2 := ⟨mlL_55, im_X9_costOfReading, se_X9_costOfReading, ini_X9, co_X9_costOfReading, nd_X9_costOfReading⟩
theorem nd_X9_layAside : (yX9_layAside).cls ≠ "java/lang/invoke/MethodHandle" ∧ (yX9_layAside).cls ≠ "java/lang/invoke/VarHandle" ∧ (parseMethodDescriptor (yX9_layAside).desc).map (fun d => d.parameters.length) = some 0 := by decide +kernel
theorem mk_X9_183 : MLk RX9 183 yX9_layAside cX9_layAside 2 none 0 := ⟨mlX9_183, im_X9_layAside, se_X9_layAside, ini_X9, co_X9_layAside, nd_X9_layAside⟩
theorem nd_X9_layBack : (yX9_layBack).cls ≠ "java/lang/invoke/MethodHandle" ∧ (yX9_layBack).cls ≠ "java/lang/invoke/VarHandle" ∧ (parseMethodDescriptor (yX9_layBack).desc).map (fun d => d.parameters.length) = some 0 := by decide +kernel
theorem mk_X9_186 : MLk RX9 186 yX9_layBack cX9_layBack 2 none 0 := ⟨mlX9_186, im_X9_layBack, se_X9_layBack, ini_X9, co_X9_layBack, nd_X9_layBack⟩
theorem nd_X8_costOfChange : (yX8_costOfChange).cls ≠ "java/lang/invoke/MethodHandle" ∧ (yX8_costOfChange).cls ≠ "java/lang/invoke/VarHandle" ∧ (parseMethodDescriptor (yX8_costOfChange).desc).map (fun d => d.parameters.length) = some 3 := by decide +kernel
theorem mk_L_56 : MLk RL 56 yX8_costOfChange cX8_costOfChange 4 (some .int) 3 := ⟨mlL_56, im_X8_costOfChange, se_X8_costOfChange, ini_X8, co_X8_costOfChange, nd_X8_costOfChange⟩
theorem nd_X3_messagesToChange : (yX3_messagesToChange).cls ≠ "java/lang/invoke/MethodHandle" ∧ (yX3_messagesToChange).cls ≠ "java/lang/invoke/VarHandle" ∧ (parseMethodDescriptor (yX3_messagesToChange).desc).map (fun d => d.parameters.length) = some 2 := by decide +kernel
theorem mk_X8_205 : MLk RX8 205 yX3_messagesToChange cX3_messagesToChange 6 (some .int) 2 := ⟨mlX8_205, im_X3_messagesToChange, se_X3_messagesToChange, ini_X3, co_X3_messagesToChange, nd_X3_messagesToChange⟩
theorem mk_X3_185 : MSk RX3 185 yJ6_bitCount_0f7a4 cJ6_bitCount_0f7a4 1 (some .int) 1 := ⟨mlX3_185, st_J6_bitCount_0f7a4, ini_J6, co_J6_bitCount_0f7a4, nd_J6_bitCount_0f7a4⟩
theorem nd_X3_wastedToChange : (yX3_wastedToChange).cls ≠ "java/lang/invoke/MethodHandle" ∧ (yX3_wastedToChange).cls ≠ "java/lang/invoke/VarHandle" ∧ (parseMethodDescriptor (yX3_wastedToChange).desc).map (fun d => d.parameters.length) = some 2 := by decide +kernel
theorem mk_X8_208 : MLk RX8 208 yX3_wastedToChange cX3_wastedToChange 3 (some .int) 2 := ⟨mlX8_208, im_X3_wastedToChange, se_X3_wastedToChange, ini_X3, co_X3_wastedToChange, nd_X3_wastedToChange⟩
theorem nd_X9_costOfChange : (yX9_costOfChange).cls ≠ "java/lang/invoke/MethodHandle" ∧ (yX9_costOfChange).cls ≠ "java/lang/invoke/VarHandle" ∧ (parseMethodDescriptor (yX9_costOfChange).desc).map (fun d => d.parameters.length) = some 3 := by decide +kernel
theorem mk_L_59 : MLk RL 59 yX9_costOfChange cX9_costOfChange 4 (some .int) 3 := ⟨mlL_59, im_X9_costOfChange, se_X9_costOfChange, ini_X9, co_X9_costOfChange, nd_X9_costOfChange⟩
theorem nd_X9_cost : (yX9_cost).cls ≠ "java/lang/invoke/MethodHandle" ∧ (yX9_cost).cls ≠ "java/lang/invoke/VarHandle" ∧ (parseMethodDescriptor (yX9_cost).desc).map (fun d => d.parameters.length) = some 3 := by decide +kernel
theorem mk_X9_189 : MLk RX9 189 yX9_cost cX9_cost 6 (some .int) 3 := ⟨mlX9_189, im_X9_cost, se_X9_cost, ini_X9, co_X9_cost, nd_X9_cost⟩
theorem nd_X8_cheapest : (yX8_cheapest).cls ≠ "java/lang/invoke/MethodHandle" ∧ (yX8_cheapest).cls ≠ "java/lang/invoke/VarHandle" ∧ (parseMethodDescriptor (yX8_cheapest).desc).map (fun d => d.parameters.length) = some 1 := by decide +kernel
theorem mk_L_60 : MLk RL 60 yX8_cheapest cX8_cheapest 6 (some .int) 1 := ⟨mlL_60, im_X8_cheapest, se_X8_cheapest, ini_X8, co_X8_cheapest, nd_X8_cheapest⟩
theorem nd_X9_cheapest : (yX9_cheapest).cls ≠ "java/lang/invoke/MethodHandle" ∧ (yX9_cheapest).cls ≠ "java/lang/invoke/VarHandle" ∧ (parseMethodDescriptor (yX9_cheapest).desc).map (fun d => d.parameters.length) = some 1 := by decide +kernel
theorem mk_L_63 : MLk RL 63 yX9_cheapest cX9_cheapest 6 (some .int) 1 := ⟨mlL_63, im_X9_cheapest, se_X9_cheapest, ini_X9, co_X9_cheapest, nd_X9_cheapest⟩
theorem nd_X8_loudest : (yX8_loudest).cls ≠ "java/lang/invoke/MethodHandle" ∧ (yX8_loudest).cls ≠ "java/lang/invoke/VarHandle" ∧ (parseMethodDescriptor (yX8_loudest).desc).map (fun d => d.parameters.length) = some 1 := by decide +kernel
theorem mk_L_64 : MLk RL 64 yX8_loudest cX8_loudest 6 (some .int) 1 := ⟨mlL_64, im_X8_loudest, se_X8_loudest, ini_X8, co_X8_loudest, nd_X8_loudest⟩
theorem nd_X3_fewestWasted : (yX3_fewestWasted).cls ≠ "java/lang/invoke/MethodHandle" ∧ (yX3_fewestWasted).cls ≠ "java/lang/invoke/VarHandle" ∧ (parseMethodDescriptor (yX3_fewestWasted).desc).map (fun d => d.parameters.length) = some 1 := by decide +kernel
theorem mk_X8_211 : MLk RX8 211 yX3_fewestWasted cX3_fewestWasted 4 (some .int) 1 := ⟨mlX8_211, im_X3_fewestWasted, se_X3_fewestWasted, ini_X3, co_X3_fewestWasted, nd_X3_fewestWasted⟩
theorem nd_X9_loudest : (yX9_loudest).cls ≠ "java/lang/invoke/MethodHandle" ∧ (yX9_loudest).cls ≠ "java/lang/invoke/VarHandle" ∧ (parseMethodDescriptor (yX9_loudest).desc).map (fun d => d.parameters.length) = some 1 := by decide +kernel
theorem mk_L_67 : MLk RL 67 yX9_loudest cX9_loudest 6 (some .int) 1 := ⟨mlL_67, im_X9_loudest, se_X9_loudest, ini_X9, co_X9_loudest, nd_X9_loudest⟩
theorem nd_X9_fewestWasted : (yX9_fewestWasted).cls ≠ "java/lang/invoke/MethodHandle" ∧ (yX9_fewestWasted).cls ≠ "java/lang/invoke/VarHandle" ∧ (parseMethodDescriptor (yX9_fewestWasted).desc).map (fun d => d.parameters.length) = some 1 := by decide +kernel
theorem mk_X9_192 : MLk RX9 192 yX9_fewestWasted cX9_fewestWasted 5 (some .int) 1 := ⟨mlX9_192, im_X9_fewestWasted, se_X9_fewestWasted, ini_X9, co_X9_fewestWasted, nd_X9_fewestWasted⟩
theorem nd_X8_accountWith : (yX8_accountWith).cls ≠ "java/lang/invoke/MethodHandle" ∧ (yX8_accountWith).cls ≠ "java/lang/invoke/VarHandle" ∧ (parseMethodDescriptor (yX8_accountWith).desc).map (fun d => d.parameters.length) = some 2 := by decide +kernel
theorem mk_L_68 : MLk RL 68 yX8_accountWith cX8_accountWith 3 (some .int) 2 := ⟨mlL_68, im_X8_accountWith, se_X8_accountWith, ini_X8, co_X8_accountWith, nd_X8_accountWith⟩
theorem nd_X3_messagesOfAccount : (yX3_messagesOfAccount).cls ≠ "java/lang/invoke/MethodHandle" ∧ (yX3_messagesOfAccount).cls ≠ "java/lang/invoke/VarHandle" ∧ (parseMethodDescriptor (yX3_messagesOfAccount).desc).map (fun d => d.parameters.length) = some 3 := by decide +kernel
theorem mk_X8_214 : MLk RX8 214 yX3_messagesOfAccount cX3_messagesOfAccount 8 (some .int) 3 := ⟨mlX8_214, im_X3_messagesOfAccount, se_X3_messagesOfAccount, ini_X3, co_X3_messagesOfAccount, nd_X3_messagesOfAccount⟩
theorem nd_X1_clear : (yX1_clear).cls ≠ "java/lang/invoke/MethodHandle" ∧ (yX1_clear).cls ≠ "java/lang/invoke/VarHandle" ∧ (parseMethodDescriptor (yX1_clear).desc).map (fun d => d.parameters.length) = some 0 := by decide +kernel
theorem mk_X3_190 : MLk RX3 190 yX1_clear cX1_clear 1 none 0 := ⟨mlX3_190, im_X1_clear, se_X1_clear, ini_X1, co_X1_clear, nd_X1_clear⟩
theorem nd_X6_clear : (yX6_clear).cls ≠ "java/lang/invoke/MethodHandle" ∧ (yX6_clear).cls ≠ "java/lang/invoke/VarHandle" ∧ (parseMethodDescriptor (yX6_clear).desc).map (fun d => d.parameters.length) = some 0 := by decide +kernel
theorem mk_X1_54 : MLk RX1 54 yX6_clear cX6_clear 1 none 0 := ⟨mlX1_54, im_X6_clear, se_X6_clear, ini_X6, co_X6_clear, nd_X6_clear⟩
theorem nd_J7_fill_53178 : (yJ7_fill_53178).cls ≠ "java/lang/invoke/MethodHandle" ∧ (yJ7_fill_53178).cls ≠ "java/lang/invoke/VarHandle" ∧ (parseMethodDescriptor (yJ7_fill_53178).desc).map (fun d => d.parameters.length) = some 2 := by decide +kernel
theorem mk_X6_13 : MSk RX6 13 yJ7_fill_53178 cJ7_fill_53178 4 none 2 := ⟨mlX6_13, st_J7_fill_53178, ini_J7, co_J7_fill_53178, nd_J7_fill_53178⟩
theorem nd_X7_clear : (yX7_clear).cls ≠ "java/lang/invoke/MethodHandle" ∧ (yX7_clear).cls ≠ "java/lang/invoke/VarHandle" ∧ (parseMethodDescriptor (yX7_clear).desc).map (fun d => d.parameters.length) = some 0 := by decide +kernel
theorem mk_X3_193 : MLk RX3 193 yX7_clear cX7_clear 1 none 0 := ⟨mlX3_193, im_X7_clear, se_X7_clear, ini_X7, co_X7_clear, nd_X7_clear⟩
theorem mk_X7_50 : MLk RX7 50 yX6_clear cX6_clear 1 none 0 := ⟨mlX7_50, im_X6_clear, se_X6_clear, ini_X6, co_X6_clear, nd_X6_clear⟩
theorem mk_X3_194 : MLk RX3 194 yX6_clear cX6_clear 1 none 0 := ⟨mlX3_194, im_X6_clear, se_X6_clear, ini_X6, co_X6_clear, nd_X6_clear⟩
theorem mk_X3_199 : MLk RX3 199 yX0_cellOf cX0_cellOf 2 (some .int) 1 := ⟨mlX3_199, im_X0_cellOf, se_X0_cellOf, ini_X0, co_X0_cellOf, nd_X0_cellOf⟩
theorem mk_X3_209 : MLk RX3 209 yX3_rewrite cX3_rewrite 6 (some .int) 3 := ⟨mlX3_209, im_X3_rewrite, se_X3_rewrite, ini_X3, co_X3_rewrite, nd_X3_rewrite⟩
theorem mk_X3_213 : MLk RX3 213 yX3_lend cX3_lend 7 (some .int) 2 := ⟨mlX3_213, im_X3_lend, se_X3_lend, ini_X3, co_X3_lend, nd_X3_lend⟩
theorem nd_X9_accountWith : (yX9_accountWith).cls ≠ "java/lang/invoke/MethodHandle" ∧ (yX9_accountWith).cls ≠ "java/lang/invoke/VarHandle" ∧ (parseMethodDescriptor (yX9_accountWith).desc).map (fun d => d.parameters.length) = some 2 := by decide +kernel
theorem mk_L_71 : MLk RL 71 yX9_accountWith cX9_accountWith 3 (some .int) 2 := ⟨mlL_71, im_X9_accountWith, se_X9_accountWith, ini_X9, co_X9_accountWith, nd_X9_accountWith⟩
theorem nd_X9_messagesWith : (yX9_messagesWith).cls ≠ "java/lang/invoke/MethodHandle" ∧ (yX9_messagesWith).cls ≠ "java/lang/invoke/VarHandle" ∧ (parseMethodDescriptor (yX9_messagesWith).desc).map (fun d => d.parameters.length) = some 2 := by decide +kernel
theorem mk_X9_195 : MLk RX9 195 yX9_messagesWith cX9_messagesWith 7 (some .int) 2 := ⟨mlX9_195, im_X9_messagesWith, se_X9_messagesWith, ini_X9, co_X9_messagesWith, nd_X9_messagesWith⟩
theorem nd_X8_best : (yX8_best).cls ≠ "java/lang/invoke/MethodHandle" ∧ (yX8_best).cls ≠ "java/lang/invoke/VarHandle" ∧ (parseMethodDescriptor (yX8_best).desc).map (fun d => d.parameters.length) = some 1 := by decide +kernel
theorem mk_L_72 : MLk RL 72 yX8_best cX8_best 8 (some .int) 1 := ⟨mlL_72, im_X8_best, se_X8_best, ini_X8, co_X8_best, nd_X8_best⟩
theorem nd_X9_best : (yX9_best).cls ≠ "java/lang/invoke/MethodHandle" ∧ (yX9_best).cls ≠ "java/lang/invoke/VarHandle" ∧ (parseMethodDescriptor (yX9_best).desc).map (fun d => d.parameters.length) = some 1 := by decide +kernel
theorem mk_L_75 : MLk RL 75 yX9_best cX9_best 8 (some .int) 1 := ⟨mlL_75, im_X9_best, se_X9_best, ini_X9, co_X9_best, nd_X9_best⟩
theorem nd_X8_account : (yX8_account).cls ≠ "java/lang/invoke/MethodHandle" ∧ (yX8_account).cls ≠ "java/lang/invoke/VarHandle" ∧ (parseMethodDescriptor (yX8_account).desc).map (fun d => d.parameters.length) = some 0 := by decide +kernel
theorem mk_L_76 : MLk RL 76 yX8_account cX8_account 2 (some .int) 0 := ⟨mlL_76, im_X8_account, se_X8_account, ini_X8, co_X8_account, nd_X8_account⟩
theorem nd_X0_clear : (yX0_clear).cls ≠ "java/lang/invoke/MethodHandle" ∧ (yX0_clear).cls ≠ "java/lang/invoke/VarHandle" ∧ (parseMethodDescriptor (yX0_clear).desc).map (fun d => d.parameters.length) = some 0 := by decide +kernel
theorem mk_X8_226 : MLk RX8 226 yX0_clear cX0_clear 1 none 0 := ⟨mlX8_226, im_X0_clear, se_X0_clear, ini_X0, co_X0_clear, nd_X0_clear⟩
theorem nd_X9_account : (yX9_account).cls ≠ "java/lang/invoke/MethodHandle" ∧ (yX9_account).cls ≠ "java/lang/invoke/VarHandle" ∧ (parseMethodDescriptor (yX9_account).desc).map (fun d => d.parameters.length) = some 0 := by decide +kernel
theorem mk_L_80 : MLk RL 80 yX9_account cX9_account 2 (some .int) 0 := ⟨mlL_80, im_X9_account, se_X9_account, ini_X9, co_X9_account, nd_X9_account⟩
theorem nd_X8_put : (yX8_put).cls ≠ "java/lang/invoke/MethodHandle" ∧ (yX8_put).cls ≠ "java/lang/invoke/VarHandle" ∧ (parseMethodDescriptor (yX8_put).desc).map (fun d => d.parameters.length) = some 1 := by decide +kernel
theorem mk_L_83 : MLk RL 83 yX8_put cX8_put 5 (some .int) 1 := ⟨mlL_83, im_X8_put, se_X8_put, ini_X8, co_X8_put, nd_X8_put⟩
theorem nd_X8_howManyCharacters : (yX8_howManyCharacters).cls ≠ "java/lang/invoke/MethodHandle" ∧ (yX8_howManyCharacters).cls ≠ "java/lang/invoke/VarHandle" ∧ (parseMethodDescriptor (yX8_howManyCharacters).desc).map (fun d => d.parameters.length) = some 1 := by decide +kernel
theorem mk_X8_229 : MSk RX8 229 yX8_howManyCharacters cX8_howManyCharacters 4 (some .int) 1 := ⟨mlX8_229, st_X8_howManyCharacters, ini_X8, co_X8_howManyCharacters, nd_X8_howManyCharacters⟩
theorem nd_X8_codeAt : (yX8_codeAt).cls ≠ "java/lang/invoke/MethodHandle" ∧ (yX8_codeAt).cls ≠ "java/lang/invoke/VarHandle" ∧ (parseMethodDescriptor (yX8_codeAt).desc).map (fun d => d.parameters.length) = some 2 := by decide +kernel
theorem mk_X8_233 : MSk RX8 233 yX8_codeAt cX8_codeAt 3 (some .int) 2 := ⟨mlX8_233, st_X8_codeAt, ini_X8, co_X8_codeAt, nd_X8_codeAt⟩
theorem nd_X5_append : (yX5_append).cls ≠ "java/lang/invoke/MethodHandle" ∧ (yX5_append).cls ≠ "java/lang/invoke/VarHandle" ∧ (parseMethodDescriptor (yX5_append).desc).map (fun d => d.parameters.length) = some 1 := by decide +kernel
theorem mk_X8_237 : MLk RX8 237 yX5_append cX5_append 2 none 1 := ⟨mlX8_237, im_X5_append, se_X5_append, ini_X5, co_X5_append, nd_X5_append⟩
theorem mk_X5_28 : MLk RX5 28 yX6_write cX6_write 3 none 2 := ⟨mlX5_28, im_X6_write, se_X6_write, ini_X6, co_X6_write, nd_X6_write⟩
theorem nd_X9_put : (yX9_put).cls ≠ "java/lang/invoke/MethodHandle" ∧ (yX9_put).cls ≠ "java/lang/invoke/VarHandle" ∧ (parseMethodDescriptor (yX9_put).desc).map (fun d => d.parameters.length) = some 1 := by decide +kernel
theorem mk_L_87 : MLk RL 87 yX9_put cX9_put 7 (some .int) 1 := ⟨mlL_87, im_X9_put, se_X9_put, ini_X9, co_X9_put, nd_X9_put⟩
theorem nd_X8_wipe : (yX8_wipe).cls ≠ "java/lang/invoke/MethodHandle" ∧ (yX8_wipe).cls ≠ "java/lang/invoke/VarHandle" ∧ (parseMethodDescriptor (yX8_wipe).desc).map (fun d => d.parameters.length) = some 0 := by decide +kernel
theorem mk_L_88 : MLk RL 88 yX8_wipe cX8_wipe 2 (some .int) 0 := ⟨mlL_88, im_X8_wipe, se_X8_wipe, ini_X8, co_X8_wipe, nd_X8_wipe⟩
theorem nd_X9_wipe : (yX9_wipe).cls ≠ "java/lang/invoke/MethodHandle" ∧ (yX9_wipe).cls ≠ "java/lang/invoke/VarHandle" ∧ (parseMethodDescriptor (yX9_wipe).desc).map (fun d => d.parameters.length) = some 0 := by decide +kernel
theorem mk_L_91 : MLk RL 91 yX9_wipe cX9_wipe 2 (some .int) 0 := ⟨mlL_91, im_X9_wipe, se_X9_wipe, ini_X9, co_X9_wipe, nd_X9_wipe⟩
theorem nd_X8_fault : (yX8_fault).cls ≠ "java/lang/invoke/MethodHandle" ∧ (yX8_fault).cls ≠ "java/lang/invoke/VarHandle" ∧ (parseMethodDescriptor (yX8_fault).desc).map (fun d => d.parameters.length) = some 0 := by decide +kernel
theorem mk_L_92 : MLk RL 92 yX8_fault cX8_fault 1 (some .int) 0 := ⟨mlL_92, im_X8_fault, se_X8_fault, ini_X8, co_X8_fault, nd_X8_fault⟩
theorem nd_X4_findFault : (yX4_findFault).cls ≠ "java/lang/invoke/MethodHandle" ∧ (yX4_findFault).cls ≠ "java/lang/invoke/VarHandle" ∧ (parseMethodDescriptor (yX4_findFault).desc).map (fun d => d.parameters.length) = some 0 := by decide +kernel
theorem mk_X8_240 : MLk RX8 240 yX4_findFault cX4_findFault 2 (some .int) 0 := ⟨mlX8_240, im_X4_findFault, se_X4_findFault, ini_X4, co_X4_findFault, nd_X4_findFault⟩
theorem nd_X4_takeNext : (yX4_takeNext).cls ≠ "java/lang/invoke/MethodHandle" ∧ (yX4_takeNext).cls ≠ "java/lang/invoke/VarHandle" ∧ (parseMethodDescriptor (yX4_takeNext).desc).map (fun d => d.parameters.length) = some 0 := by decide +kernel
theorem mk_X4_19 : MLk RX4 19 yX4_takeNext cX4_takeNext 1 (some .boolean) 0 := ⟨mlX4_19, im_X4_takeNext, se_X4_takeNext, ini_X4, co_X4_takeNext, nd_X4_takeNext⟩
theorem nd_X4_take : (yX4_take).cls ≠ "java/lang/invoke/MethodHandle" ∧ (yX4_take).cls ≠ "java/lang/invoke/VarHandle" ∧ (parseMethodDescriptor (yX4_take).desc).map (fun d => d.parameters.length) = some 1 := by decide +kernel
theorem mk_X4_28 : MLk RX4 28 yX4_take cX4_take 2 (some .boolean) 1 := ⟨mlX4_28, im_X4_take, se_X4_take, ini_X4, co_X4_take, nd_X4_take⟩
theorem nd_X5_codeAt : (yX5_codeAt).cls ≠ "java/lang/invoke/MethodHandle" ∧ (yX5_codeAt).cls ≠ "java/lang/invoke/VarHandle" ∧ (parseMethodDescriptor (yX5_codeAt).desc).map (fun d => d.parameters.length) = some 1 := by decide +kernel
theorem mk_X4_44 : MLk RX4 44 yX5_codeAt cX5_codeAt 2 (some .int) 1 := ⟨mlX4_44, im_X5_codeAt, se_X5_codeAt, ini_X5, co_X5_codeAt, nd_X5_codeAt⟩
theorem mk_X5_24 : MLk RX5 24 yX6_at cX6_at 2 (some .int) 1 := ⟨mlX5_24, im_X6_at, se_X6_at, ini_X6, co_X6_at, nd_X6_at⟩
theorem nd_X4_takeKind : (yX4_takeKind).cls ≠ "java/lang/invoke/MethodHandle" ∧ (yX4_takeKind).cls ≠ "java/lang/invoke/VarHandle" ∧ (parseMethodDescriptor (yX4_takeKind).desc).map (fun d => d.parameters.length) = some 0 := by decide +kernel
theorem mk_X4_32 : MLk RX4 32 yX4_takeKind cX4_takeKind 1 (some .boolean) 0 := ⟨mlX4_32, im_X4_takeKind, se_X4_takeKind, ini_X4, co_X4_takeKind, nd_X4_takeKind⟩
theorem nd_X4_kindOf : (yX4_kindOf).cls ≠ "java/lang/invoke/MethodHandle" ∧ (yX4_kindOf).cls ≠ "java/lang/invoke/VarHandle" ∧ (parseMethodDescriptor (yX4_kindOf).desc).map (fun d => d.parameters.length) = some 1 := by decide +kernel
theorem mk_X4_48 : MSk RX4 48 yX4_kindOf cX4_kindOf 1 (some .int) 1 := ⟨mlX4_48, st_X4_kindOf, ini_X4, co_X4_kindOf, nd_X4_kindOf⟩
theorem nd_X4_takeReader : (yX4_takeReader).cls ≠ "java/lang/invoke/MethodHandle" ∧ (yX4_takeReader).cls ≠ "java/lang/invoke/VarHandle" ∧ (parseMethodDescriptor (yX4_takeReader).desc).map (fun d => d.parameters.length) = some 0 := by decide +kernel
theorem mk_X4_35 : MLk RX4 35 yX4_takeReader cX4_takeReader 2 (some .boolean) 0 := ⟨mlX4_35, im_X4_takeReader, se_X4_takeReader, ini_X4, co_X4_takeReader, nd_X4_takeReader⟩
theorem nd_X4_takeNumber : (yX4_takeNumber).cls ≠ "java/lang/invoke/MethodHandle" ∧ (yX4_takeNumber).cls ≠ "java/lang/invoke/VarHandle" ∧ (parseMethodDescriptor (yX4_takeNumber).desc).map (fun d => d.parameters.length) = some 0 := by decide +kernel
theorem mk_X4_57 : MLk RX4 57 yX4_takeNumber cX4_takeNumber 4 (some .boolean) 0 := ⟨mlX4_57, im_X4_takeNumber, se_X4_takeNumber, ini_X4, co_X4_takeNumber, nd_X4_takeNumber⟩
theorem nd_X4_isDigit : (yX4_isDigit).cls ≠ "java/lang/invoke/MethodHandle" ∧ (yX4_isDigit).cls ≠ "java/lang/invoke/VarHandle" ∧ (parseMethodDescriptor (yX4_isDigit).desc).map (fun d => d.parameters.length) = some 1 := by decide +kernel
theorem mk_X4_69 : MSk RX4 69 yX4_isDigit cX4_isDigit 1 (some .boolean) 1 := ⟨mlX4_69, st_X4_isDigit, ini_X4, co_X4_isDigit, nd_X4_isDigit⟩
theorem nd_X4_takeNote : (yX4_takeNote).cls ≠ "java/lang/invoke/MethodHandle" ∧ (yX4_takeNote).cls ≠ "java/lang/invoke/VarHandle" ∧ (parseMethodDescriptor (yX4_takeNote).desc).map (fun d => d.parameters.length) = some 0 := by decide +kernel
theorem mk_X4_38 : MLk RX4 38 yX4_takeNote cX4_takeNote 2 (some .boolean) 0 := ⟨mlX4_38, im_X4_takeNote, se_X4_takeNote, ini_X4, co_X4_takeNote, nd_X4_takeNote⟩
theorem nd_X4_takeValue : (yX4_takeValue).cls ≠ "java/lang/invoke/MethodHandle" ∧ (yX4_takeValue).cls ≠ "java/lang/invoke/VarHandle" ∧ (parseMethodDescriptor (yX4_takeValue).desc).map (fun d => d.parameters.length) = some 0 := by decide +kernel
theorem mk_X4_41 : MLk RX4 41 yX4_takeValue cX4_takeValue 2 (some .boolean) 0 := ⟨mlX4_41, im_X4_takeValue, se_X4_takeValue, ini_X4, co_X4_takeValue, nd_X4_takeValue⟩
theorem nd_X9_fault : (yX9_fault).cls ≠ "java/lang/invoke/MethodHandle" ∧ (yX9_fault).cls ≠ "java/lang/invoke/VarHandle" ∧ (parseMethodDescriptor (yX9_fault).desc).map (fun d => d.parameters.length) = some 0 := by decide +kernel
theorem mk_L_95 : MLk RL 95 yX9_fault cX9_fault 1 (some .int) 0 := ⟨mlL_95, im_X9_fault, se_X9_fault, ini_X9, co_X9_fault, nd_X9_fault⟩
theorem nd_X9_takeOrder : (yX9_takeOrder).cls ≠ "java/lang/invoke/MethodHandle" ∧ (yX9_takeOrder).cls ≠ "java/lang/invoke/VarHandle" ∧ (parseMethodDescriptor (yX9_takeOrder).desc).map (fun d => d.parameters.length) = some 0 := by decide +kernel
theorem mk_X9_220 : MLk RX9 220 yX9_takeOrder cX9_takeOrder 2 none 0 := ⟨mlX9_220, im_X9_takeOrder, se_X9_takeOrder, ini_X9, co_X9_takeOrder, nd_X9_takeOrder⟩
theorem nd_X9_next : (yX9_next).cls ≠ "java/lang/invoke/MethodHandle" ∧ (yX9_next).cls ≠ "java/lang/invoke/VarHandle" ∧ (parseMethodDescriptor (yX9_next).desc).map (fun d => d.parameters.length) = some 0 := by decide +kernel
theorem mk_X9_207 : MLk RX9 207 yX9_next cX9_next 1 (some .int) 0 := ⟨mlX9_207, im_X9_next, se_X9_next, ini_X9, co_X9_next, nd_X9_next⟩
theorem nd_X9_takeNumber : (yX9_takeNumber).cls ≠ "java/lang/invoke/MethodHandle" ∧ (yX9_takeNumber).cls ≠ "java/lang/invoke/VarHandle" ∧ (parseMethodDescriptor (yX9_takeNumber).desc).map (fun d => d.parameters.length) = some 1 := by decide +kernel
theorem mk_X9_214 : MLk RX9 214 yX9_takeNumber cX9_takeNumber 3 none 1 := ⟨mlX9_214, im_X9_takeNumber, se_X9_takeNumber, ini_X9, co_X9_takeNumber, nd_X9_takeNumber⟩
theorem nd_X9_takeSign : (yX9_takeSign).cls ≠ "java/lang/invoke/MethodHandle" ∧ (yX9_takeSign).cls ≠ "java/lang/invoke/VarHandle" ∧ (parseMethodDescriptor (yX9_takeSign).desc).map (fun d => d.parameters.length) = some 1 := by decide +kernel
theorem mk_X9_217 : MLk RX9 217 yX9_takeSign cX9_takeSign 2 none 1 := ⟨mlX9_217, im_X9_takeSign, se_X9_takeSign, ini_X9, co_X9_takeSign, nd_X9_takeSign⟩
theorem nd_X8_carryOut : (yX8_carryOut).cls ≠ "java/lang/invoke/MethodHandle" ∧ (yX8_carryOut).cls ≠ "java/lang/invoke/VarHandle" ∧ (parseMethodDescriptor (yX8_carryOut).desc).map (fun d => d.parameters.length) = some 0 := by decide +kernel
theorem mk_L_96 : MLk RL 96 yX8_carryOut cX8_carryOut 2 (some .int) 0 := ⟨mlL_96, im_X8_carryOut, se_X8_carryOut, ini_X8, co_X8_carryOut, nd_X8_carryOut⟩
theorem mk_X8_246 : MLk RX8 246 yX4_takeNext cX4_takeNext 1 (some .boolean) 0 := ⟨mlX8_246, im_X4_takeNext, se_X4_takeNext, ini_X4, co_X4_takeNext, nd_X4_takeNext⟩
theorem nd_X9_carryOut : (yX9_carryOut).cls ≠ "java/lang/invoke/MethodHandle" ∧ (yX9_carryOut).cls ≠ "java/lang/invoke/VarHandle" ∧ (parseMethodDescriptor (yX9_carryOut).desc).map (fun d => d.parameters.length) = some 0 := by decide +kernel
theorem mk_L_99 : MLk RL 99 yX9_carryOut cX9_carryOut 2 (some .int) 0 := ⟨mlL_99, im_X9_carryOut, se_X9_carryOut, ini_X9, co_X9_carryOut, nd_X9_carryOut⟩
theorem mk_X9_223 : MLk RX9 223 yX9_fault cX9_fault 1 (some .int) 0 := ⟨mlX9_223, im_X9_fault, se_X9_fault, ini_X9, co_X9_fault, nd_X9_fault⟩
theorem nd_X9_carry : (yX9_carry).cls ≠ "java/lang/invoke/MethodHandle" ∧ (yX9_carry).cls ≠ "java/lang/invoke/VarHandle" ∧ (parseMethodDescriptor (yX9_carry).desc).map (fun d => d.parameters.length) = some 1 := by decide +kernel
theorem mk_X9_226 : MLk RX9 226 yX9_carry cX9_carry 3 (some .int) 1 := ⟨mlX9_226, im_X9_carry, se_X9_carry, ini_X9, co_X9_carry, nd_X9_carry⟩
theorem nd_X8_undo : (yX8_undo).cls ≠ "java/lang/invoke/MethodHandle" ∧ (yX8_undo).cls ≠ "java/lang/invoke/VarHandle" ∧ (parseMethodDescriptor (yX8_undo).desc).map (fun d => d.parameters.length) = some 0 := by decide +kernel
theorem mk_L_100 : MLk RL 100 yX8_undo cX8_undo 1 (some .int) 0 := ⟨mlL_100, im_X8_undo, se_X8_undo, ini_X8, co_X8_undo, nd_X8_undo⟩
theorem nd_X2_takeBack : (yX2_takeBack).cls ≠ "java/lang/invoke/MethodHandle" ∧ (yX2_takeBack).cls ≠ "java/lang/invoke/VarHandle" ∧ (parseMethodDescriptor (yX2_takeBack).desc).map (fun d => d.parameters.length) = some 1 := by decide +kernel
theorem mk_X8_264 : MLk RX8 264 yX2_takeBack cX2_takeBack 3 (some .boolean) 1 := ⟨mlX8_264, im_X2_takeBack, se_X2_takeBack, ini_X2, co_X2_takeBack, nd_X2_takeBack⟩
theorem nd_X9_undo : (yX9_undo).cls ≠ "java/lang/invoke/MethodHandle" ∧ (yX9_undo).cls ≠ "java/lang/invoke/VarHandle" ∧ (parseMethodDescriptor (yX9_undo).desc).map (fun d => d.parameters.length) = some 0 := by decide +kernel
theorem mk_L_103 : MLk RL 103 yX9_undo cX9_undo 3 (some .int) 0 := ⟨mlL_103, im_X9_undo, se_X9_undo, ini_X9, co_X9_undo, nd_X9_undo⟩
theorem nd_X8_save : (yX8_save).cls ≠ "java/lang/invoke/MethodHandle" ∧ (yX8_save).cls ≠ "java/lang/invoke/VarHandle" ∧ (parseMethodDescriptor (yX8_save).desc).map (fun d => d.parameters.length) = some 1 := by decide +kernel
theorem mk_L_104 : MLk RL 104 yX8_save cX8_save 3 (some .int) 1 := ⟨mlL_104, im_X8_save, se_X8_save, ini_X8, co_X8_save, nd_X8_save⟩
theorem mk_X8_268 : MLk RX8 268 yX3_copyFrom cX3_copyFrom 2 none 1 := ⟨mlX8_268, im_X3_copyFrom, se_X3_copyFrom, ini_X3, co_X3_copyFrom, nd_X3_copyFrom⟩
theorem nd_X9_save : (yX9_save).cls ≠ "java/lang/invoke/MethodHandle" ∧ (yX9_save).cls ≠ "java/lang/invoke/VarHandle" ∧ (parseMethodDescriptor (yX9_save).desc).map (fun d => d.parameters.length) = some 1 := by decide +kernel
theorem mk_L_107 : MLk RL 107 yX9_save cX9_save 3 (some .int) 1 := ⟨mlL_107, im_X9_save, se_X9_save, ini_X9, co_X9_save, nd_X9_save⟩
theorem nd_X8_restore : (yX8_restore).cls ≠ "java/lang/invoke/MethodHandle" ∧ (yX8_restore).cls ≠ "java/lang/invoke/VarHandle" ∧ (parseMethodDescriptor (yX8_restore).desc).map (fun d => d.parameters.length) = some 1 := by decide +kernel
theorem mk_L_108 : MLk RL 108 yX8_restore cX8_restore 3 (some .int) 1 := ⟨mlL_108, im_X8_restore, se_X8_restore, ini_X8, co_X8_restore, nd_X8_restore⟩
theorem nd_X9_restore : (yX9_restore).cls ≠ "java/lang/invoke/MethodHandle" ∧ (yX9_restore).cls ≠ "java/lang/invoke/VarHandle" ∧ (parseMethodDescriptor (yX9_restore).desc).map (fun d => d.parameters.length) = some 1 := by decide +kernel
theorem mk_L_111 : MLk RL 111 yX9_restore cX9_restore 3 (some .int) 1 := ⟨mlL_111, im_X9_restore, se_X9_restore, ini_X9, co_X9_restore, nd_X9_restore⟩
theorem mk_X3_86 : MNk RX3 86 yX8_isReader cX8_isReader 1 (some .boolean) 1 := ⟨⟨_, List.mem_of_getElem? (i := 4) rfl⟩, st_X8_isReader, ini_X8, co_X8_isReader, nd_X8_isReader⟩
theorem mk_X3_90 : MNk RX3 90 yX8_isNote cX8_isNote 1 (some .boolean) 1 := ⟨⟨_, List.mem_of_getElem? (i := 5) rfl⟩, st_X8_isNote, ini_X8, co_X8_isNote, nd_X8_isNote⟩
theorem nd_X8_isIn : (yX8_isIn).cls ≠ "java/lang/invoke/MethodHandle" ∧ (yX8_isIn).cls ≠ "java/lang/invoke/VarHandle" ∧ (parseMethodDescriptor (yX8_isIn).desc).map (fun d => d.parameters.length) = some 2 := by decide +kernel
theorem mk_X7_36 : MNk RX7 36 yX8_isIn cX8_isIn 2 (some .boolean) 2 := ⟨⟨_, List.mem_of_getElem? (i := 6) rfl⟩, st_X8_isIn, ini_X8, co_X8_isIn, nd_X8_isIn⟩
theorem nd_X8_only : (yX8_only).cls ≠ "java/lang/invoke/MethodHandle" ∧ (yX8_only).cls ≠ "java/lang/invoke/VarHandle" ∧ (parseMethodDescriptor (yX8_only).desc).map (fun d => d.parameters.length) = some 1 := by decide +kernel
theorem mk_X7_44 : MNk RX7 44 yX8_only cX8_only 1 (some .int) 1 := ⟨⟨_, List.mem_of_getElem? (i := 7) rfl⟩, st_X8_only, ini_X8, co_X8_only, nd_X8_only⟩
theorem mk_X1_31 : MNk RX1 31 yX8_groupOf cX8_groupOf 2 (some .int) 2 := ⟨⟨_, List.mem_of_getElem? (i := 8) rfl⟩, st_X8_groupOf, ini_X8, co_X8_groupOf, nd_X8_groupOf⟩
theorem mk_X1_27 : MNk RX1 27 yX8_isIn cX8_isIn 2 (some .boolean) 2 := ⟨⟨_, List.mem_of_getElem? (i := 9) rfl⟩, st_X8_isIn, ini_X8, co_X8_isIn, nd_X8_isIn⟩
theorem mk_X1_35 : MNk RX1 35 yX8_only cX8_only 1 (some .int) 1 := ⟨⟨_, List.mem_of_getElem? (i := 10) rfl⟩, st_X8_only, ini_X8, co_X8_only, nd_X8_only⟩
theorem mk_X3_157 : MNk RX3 157 yX8_isIn cX8_isIn 2 (some .boolean) 2 := ⟨⟨_, List.mem_of_getElem? (i := 11) rfl⟩, st_X8_isIn, ini_X8, co_X8_isIn, nd_X8_isIn⟩
theorem mk_X3_145 : MNk RX3 145 yX8_only cX8_only 1 (some .int) 1 := ⟨⟨_, List.mem_of_getElem? (i := 12) rfl⟩, st_X8_only, ini_X8, co_X8_only, nd_X8_only⟩
theorem ki_m1 : Int32.ofInt (-1) = -1 := by decide
theorem ki_0 : Int32.ofInt (0) = 0 := by decide
theorem ki_1 : Int32.ofInt (1) = 1 := by decide
theorem ki_2 : Int32.ofInt (2) = 2 := by decide
theorem ki_3 : Int32.ofInt (3) = 3 := by decide
theorem ki_4 : Int32.ofInt (4) = 4 := by decide
theorem ki_5 : Int32.ofInt (5) = 5 := by decide
theorem kb_m6 : (Int8.ofInt (-6)).toInt32 = -6 := by decide
theorem kb_m5 : (Int8.ofInt (-5)).toInt32 = -5 := by decide
theorem kb_m4 : (Int8.ofInt (-4)).toInt32 = -4 := by decide
theorem kb_m3 : (Int8.ofInt (-3)).toInt32 = -3 := by decide
theorem kb_m2 : (Int8.ofInt (-2)).toInt32 = -2 := by decide
theorem kb_6 : (Int8.ofInt (6)).toInt32 = 6 := by decide
theorem kb_7 : (Int8.ofInt (7)).toInt32 = 7 := by decide
theorem kb_8 : (Int8.ofInt (8)).toInt32 = 8 := by decide
theorem kb_10 : (Int8.ofInt (10)).toInt32 = 10 := by decide
theorem kb_15 : (Int8.ofInt (15)).toInt32 = 15 := by decide
theorem kb_16 : (Int8.ofInt (16)).toInt32 = 16 := by decide
theorem kb_23 : (Int8.ofInt (23)).toInt32 = 23 := by decide
theorem kb_24 : (Int8.ofInt (24)).toInt32 = 24 := by decide
theorem kb_29 : (Int8.ofInt (29)).toInt32 = 29 := by decide
theorem kb_31 : (Int8.ofInt (31)).toInt32 = 31 := by decide
theorem kb_32 : (Int8.ofInt (32)).toInt32 = 32 := by decide
theorem kb_33 : (Int8.ofInt (33)).toInt32 = 33 := by decide
theorem kb_48 : (Int8.ofInt (48)).toInt32 = 48 := by decide
theorem kb_57 : (Int8.ofInt (57)).toInt32 = 57 := by decide
theorem kb_58 : (Int8.ofInt (58)).toInt32 = 58 := by decide
theorem kb_59 : (Int8.ofInt (59)).toInt32 = 59 := by decide
theorem kb_60 : (Int8.ofInt (60)).toInt32 = 60 := by decide
theorem kb_61 : (Int8.ofInt (61)).toInt32 = 61 := by decide
theorem kb_63 : (Int8.ofInt (63)).toInt32 = 63 := by decide
theorem kb_80 : (Int8.ofInt (80)).toInt32 = 80 := by decide
theorem kb_87 : (Int8.ofInt (87)).toInt32 = 87 := by decide
theorem kb_119 : (Int8.ofInt (119)).toInt32 = 119 := by decide
theorem kb_126 : (Int8.ofInt (126)).toInt32 = 126 := by decide
theorem ks_128 : (Int16.ofInt (128)).toInt32 = 128 := by decide
theorem ks_208 : (Int16.ofInt (208)).toInt32 = 208 := by decide
theorem ks_592 : (Int16.ofInt (592)).toInt32 = 592 := by decide
theorem ks_652 : (Int16.ofInt (652)).toInt32 = 652 := by decide
theorem ks_1304 : (Int16.ofInt (1304)).toInt32 = 1304 := by decide
theorem ks_3912 : (Int16.ofInt (3912)).toInt32 = 3912 := by decide
theorem ks_9999 : (Int16.ofInt (9999)).toInt32 = 9999 := by decide
theorem pn_X0 : plainName RX0 = true := by decide +kernel
theorem pn_X1 : plainName RX1 = true := by decide +kernel
theorem pn_X2 : plainName RX2 = true := by decide +kernel
theorem pn_X3 : plainName RX3 = true := by decide +kernel
theorem pn_X4 : plainName RX4 = true := by decide +kernel
theorem pn_X5 : plainName RX5 = true := by decide +kernel
theorem pn_X6 : plainName RX6 = true := by decide +kernel
theorem pn_X7 : plainName RX7 = true := by decide +kernel
theorem pn_X8 : plainName RX8 = true := by decide +kernel
theorem pn_X9 : plainName RX9 = true := by decide +kernel
theorem pn_J6 : plainName RJ6 = true := by decide +kernel
theorem pn_J7 : plainName RJ7 = true := by decide +kernel
end
section
variable {l : Launch} {D : va_G} {E : En} {A : Nat → Prop}
/-! a row of numbers: reading, writing, adding, clearing, copying -/
def rat (n : Nat) (f : FN) (i : Int32) : Int32 := if i < 0 then 0 else if Int32.ofNat n ≤ i then 0 else f i.toNatClampNeg
def rwr (n : Nat) (S : St) (k : Nat) (i x : Int32) : St := if i < 0 then S else if Int32.ofNat n ≤ i then S else sp S k i.toNatClampNeg x
def rad (n : Nat) (S : St) (k : Nat) (i x : Int32) : St := if i < 0 then S else if Int32.ofNat n ≤ i then S else sp S k i.toNatClampNeg (S k i.toNatClampNeg + x)
def rcl (n : Nat) (S : St) (k : Nat) : St := va_up S k (fun j => if j < n then 0 else S k j)
def rcp (G : Gs) (o k o' k' n : Nat) : Gs := va_up G o (va_up (G o) k (va_cpy (G o' k') (G o k) 0 0 n))
theorem row_in {i : Int32} {n : Nat} (hn : n < 2 ^ 31) (h1 : ¬ i < 0) (h2 : ¬ Int32.ofNat n ≤ i) : vp_in i n := by
  rcases pk_ix i hn with h | h | ⟨j, hj, rfl⟩
  · exact absurd h h1
  · exact absurd h h2
  · exact vp_in_nI hj hn
theorem k_row_at {G : Gs} {S : St} {o k n : Nat} {i r : Int32} (hn : n < 2 ^ 31) (hR : RowAt E o k n) (hf : rat n (S (k + 1)) i = r) : Ctr l D E A yX6_at cX6_at 2 (some .int) (rmD 0) [.ref (eA E o k), .int i] (wl E (va_up G o S)) (some (.int r)) (wl E (va_up G o S)) := by
  refine Ctr.of (own := RX6) pn_X6 rfl (Nat.le_of_ble_eq_true rfl) ?_
  intro p e s m args below meth c K
  refine v_lv (lv' := [(0, .ref (eA E o k)), (1, .int i)]) rfl ?_
  unfold rat at hf
  refine v_iload_n K 1 dX6_at_0 rfl rfl ?_
  refine v_if_lt (tgt := 22) K dX6_at_1 (by decide) (fun h1 => ?_) (fun h1 => ?_)
  · have hf := it_pos h1 hf
    refine v_iconst K dX6_at_22 ki_0 ?_
    exact v_iret K rfl dX6_at_23 (ev_v hf) rfl
  · have hf := it_neg h1 hf
    refine v_iload_n K 1 dX6_at_4 rfl rfl ?_
    refine v_aload_n K 0 dX6_at_5 rfl rfl ?_
    refine g_get K fk_X6_7 dX6_at_6 hR.1 (hR.2.2.1 _) rfl ?_
    refine g_alen K dX6_at_9 hR.2.1 hR.2.2.2 rfl ?_
    refine v_icmp_ge (tgt := 22) K dX6_at_10 (by decide) (fun h2 => ?_) (fun h2 => ?_)
    · have hf := it_pos h2 hf
      refine v_iconst K dX6_at_22 ki_0 ?_
      exact v_iret K rfl dX6_at_23 (ev_v hf) rfl
    · have hf := it_neg h2 hf
      refine v_aload_n K 0 dX6_at_13 rfl rfl ?_
      refine g_get K fk_X6_7 dX6_at_14 hR.1 (hR.2.2.1 _) rfl ?_
      refine v_iload_n K 1 dX6_at_17 rfl rfl ?_
      refine g_iald K dX6_at_18 hR.2.1 (hR.2.2.2 _) (row_in hn h1 h2) ?_
      refine v_goto (tgt := 23) K dX6_at_19 (by decide) ?_
      exact v_iret K rfl dX6_at_23 (ev_v hf) rfl
theorem k_row_write {G : Gs} {S S' : St} {o k n : Nat} {i x : Int32} (hn : n < 2 ^ 31) (hR : RowAt E o k n) (hf : rwr n S (k + 1) i x = S') : Ctr l D E A yX6_write cX6_write 3 none (rmD 0) [.ref (eA E o k), .int i, .int x] (wl E (va_up G o S)) none (wl E (va_up G o S')) := by
  refine Ctr.of (own := RX6) pn_X6 rfl (Nat.le_of_ble_eq_true rfl) ?_
  intro p e s m args below meth c K
  refine v_lv (lv' := [(0, .ref (eA E o k)), (1, .int i), (2, .int x)]) rfl ?_
  unfold rwr at hf
  refine v_iload_n K 1 dX6_write_0 rfl rfl ?_
  refine v_if_lt (tgt := 20) K dX6_write_1 (by decide) (fun h1 => ?_) (fun h1 => ?_)
  · have hf := it_pos h1 hf
    exact v_vret K rfl dX6_write_20 rfl (ew_v hf)
  · have hf := it_neg h1 hf
    refine v_iload_n K 1 dX6_write_4 rfl rfl ?_
    refine v_aload_n K 0 dX6_write_5 rfl rfl ?_
    refine g_get K fk_X6_7 dX6_write_6 hR.1 (hR.2.2.1 _) rfl ?_
    refine g_alen K dX6_write_9 hR.2.1 hR.2.2.2 rfl ?_
    refine v_icmp_ge (tgt := 20) K dX6_write_10 (by decide) (fun h2 => ?_) (fun h2 => ?_)
    · have hf := it_pos h2 hf
      exact v_vret K rfl dX6_write_20 rfl (ew_v hf)
    · have hf := it_neg h2 hf
      refine v_aload_n K 0 dX6_write_13 rfl rfl ?_
      refine g_get K fk_X6_7 dX6_write_14 hR.1 (hR.2.2.1 _) rfl ?_
      refine v_iload_n K 1 dX6_write_17 rfl rfl ?_
      refine v_iload_n K 2 dX6_write_18 rfl rfl ?_
      refine g_iast K dX6_write_19 hR.2.1 hR.2.2.2 (row_in hn h1 h2) hf.symm ?_
      exact v_vret K rfl dX6_write_20 rfl rfl
theorem k_row_add {G : Gs} {S S' : St} {o k n : Nat} {i x : Int32} (hn : n < 2 ^ 31) (hR : RowAt E o k n) (hf : rad n S (k + 1) i x = S') : Ctr l D E A yX6_add cX6_add 3 none (rmD 0) [.ref (eA E o k), .int i, .int x] (wl E (va_up G o S)) none (wl E (va_up G o S')) := by
  refine Ctr.of (own := RX6) pn_X6 rfl (Nat.le_of_ble_eq_true rfl) ?_
  intro p e s m args below meth c K
  refine v_lv (lv' := [(0, .ref (eA E o k)), (1, .int i), (2, .int x)]) rfl ?_
  unfold rad at hf
  refine v_iload_n K 1 dX6_add_0 rfl rfl ?_
  refine v_if_lt (tgt := 23) K dX6_add_1 (by decide) (fun h1 => ?_) (fun h1 => ?_)
  · have hf := it_pos h1 hf
    exact v_vret K rfl dX6_add_23 rfl (ew_v hf)
  · have hf := it_neg h1 hf
    refine v_iload_n K 1 dX6_add_4 rfl rfl ?_
    refine v_aload_n K 0 dX6_add_5 rfl rfl ?_
    refine g_get K fk_X6_7 dX6_add_6 hR.1 (hR.2.2.1 _) rfl ?_
    refine g_alen K dX6_add_9 hR.2.1 hR.2.2.2 rfl ?_
    refine v_icmp_ge (tgt := 23) K dX6_add_10 (by decide) (fun h2 => ?_) (fun h2 => ?_)
    · have hf := it_pos h2 hf
      exact v_vret K rfl dX6_add_23 rfl (ew_v hf)
    · have hf := it_neg h2 hf
      refine v_aload_n K 0 dX6_add_13 rfl rfl ?_
      refine g_get K fk_X6_7 dX6_add_14 hR.1 (hR.2.2.1 _) rfl ?_
      refine v_iload_n K 1 dX6_add_17 rfl rfl ?_
      refine v_dup2 K dX6_add_18 rfl rfl ?_
      refine g_iald K dX6_add_19 hR.2.1 (hR.2.2.2 _) (row_in hn h1 h2) ?_
      refine v_iload_n K 2 dX6_add_20 rfl rfl ?_
      refine v_iadd K dX6_add_21 ?_
      refine g_iast K dX6_add_22 hR.2.1 hR.2.2.2 (row_in hn h1 h2) hf.symm ?_
      exact v_vret K rfl dX6_add_23 rfl rfl
theorem k_fill {G : Gs} {S S' : St} {o k n : Nat} {x : Int32} (hn : n < 2 ^ 31) (hR : RowAt E o k n) (hf : va_up S (k + 1) (fun j => if j < n then x else S (k + 1) j) = S') : Ctr l D E A yJ7_fill_53178 cJ7_fill_53178 4 none (rmD 0) [.ref (eA E o (k + 1)), .int x] (wl E (va_up G o S)) none (wl E (va_up G o S')) := by
  refine Ctr.of (own := RJ7) pn_J7 rfl (Nat.le_of_ble_eq_true rfl) ?_
  intro p e s m args below meth c K
  refine v_lv (lv' := [(0, .ref (eA E o (k + 1))), (1, .int x)]) rfl ?_
  refine v_iconst K dJ7_fill_53178_0 ki_0 ?_
  refine v_istore_n (lv' := [(2, .int 0), (0, .ref (eA E o (k + 1))), (1, .int x)]) K dJ7_fill_53178_1 rfl (by decide) rfl ?_
  refine v_aload_n K 1 dJ7_fill_53178_2 rfl rfl ?_
  refine g_alen K dJ7_fill_53178_3 hR.2.1 hR.2.2.2 rfl ?_
  refine v_istore_n (lv' := [(3, .int (Int32.ofNat n)), (2, .int 0), (0, .ref (eA E o (k + 1))), (1, .int x)]) K dJ7_fill_53178_4 rfl (by decide) rfl ?_
  refine v_lsub (lv' := [(0, .ref (eA E o (k + 1))), (1, .int x), (2, .int 0), (3, .int (Int32.ofNat n))]) [2, 3, 1, 0] rfl ?_
  have L1 : ∀ (t j : Nat), j + t = n → ∀ S1 : St, S1 = va_up S (k + 1) (fun q => if q < j then x else S (k + 1) q) → VV p l e (rmD 0) s m args below meth c (MQ below (CQ D A none (wl E (va_up G o S'))) args s 0 0 A) D A 4 5 [] [(0, .ref (eA E o (k + 1))), (1, .int x), (2, .int (nI j)), (3, .int (Int32.ofNat n))] (wl E (va_up G o S1)) := by
    intro t
    induction t with
    | zero =>
      intro j hj S1 h1
      obtain rfl : j = n := by omega
      refine v_iload_n K 2 dJ7_fill_53178_5 rfl rfl ?_
      refine v_iload_n K 3 dJ7_fill_53178_6 rfl rfl ?_
      refine v_icmp_ge (tgt := 20) K dJ7_fill_53178_7 (by decide) (fun h2 => ?_) (fun h2 => ?_)
      · exact v_vret K rfl dJ7_fill_53178_20 rfl (ew_v (h1.trans hf))
      · exact absurd (nI_le (Nat.le_refl j) hn) h2
    | succ t ih =>
      intro j hj S1 h1
      have hlt : j < n := by omega
      refine v_iload_n K 2 dJ7_fill_53178_5 rfl rfl ?_
      refine v_iload_n K 3 dJ7_fill_53178_6 rfl rfl ?_
      refine v_icmp_ge (tgt := 20) K dJ7_fill_53178_7 (by decide) (fun h2 => ?_) (fun h2 => ?_)
      · exact absurd h2 (nI_ge hlt hn)
      · refine v_aload_n K 0 dJ7_fill_53178_10 rfl rfl ?_
        refine v_iload_n K 2 dJ7_fill_53178_11 rfl rfl ?_
        refine v_iload_n K 1 dJ7_fill_53178_12 rfl rfl ?_
        refine g_iast K dJ7_fill_53178_13 hR.2.1 hR.2.2.2 (vp_in_nI hlt hn) rfl ?_
        refine v_iinc (v := nI (j + 1)) (lv' := [(2, .int (nI (j + 1))), (0, .ref (eA E o (k + 1))), (1, .int x), (3, .int (Int32.ofNat n))]) K 2 dJ7_fill_53178_14 rfl (nI_1 j) (by decide) rfl ?_
        refine v_goto (tgt := 5) K dJ7_fill_53178_17 (by decide) ?_
        refine v_lsub [1, 2, 0, 3] rfl ?_
        refine ih (j + 1) (by omega) _ ?_
        rw [nI_clamp (by omega), h1]
        unfold sp
        rw [up_up, up_self]
        congr 1
        funext q
        unfold upd
        by_cases hq : q = j
        · subst hq
          simp
        · by_cases hq2 : q < j
          · simp [hq, hq2, show q < j + 1 by omega]
          · simp [hq, hq2, show ¬ q < j + 1 by omega]
  exact L1 n 0 (by omega) S (by funext q; by_cases hq : q = k + 1 <;> simp [va_up, hq])
theorem k_row_clear {G : Gs} {S S' : St} {o k n : Nat} (hn : n < 2 ^ 31) (hR : RowAt E o k n) (hf : rcl n S (k + 1) = S') : Ctr l D E A yX6_clear cX6_clear 1 none (rmD 1) [.ref (eA E o k)] (wl E (va_up G o S)) none (wl E (va_up G o S')) := by
  refine Ctr.of (own := RX6) pn_X6 rfl (Nat.le_of_ble_eq_true rfl) ?_
  intro p e s m args below meth c K
  refine v_lv (lv' := [(0, .ref (eA E o k))]) rfl ?_
  refine v_aload_n K 0 dX6_clear_0 rfl rfl ?_
  refine g_get K fk_X6_7 dX6_clear_1 hR.1 (hR.2.2.1 _) rfl ?_
  refine v_iconst K dX6_clear_4 ki_0 ?_
  refine v_callS (As := [.ref (eA E o (k + 1)), .int 0]) (rest := []) K mk_X6_13 dX6_clear_5 (k_fill hn hR hf) rfl rfl (Nat.le_of_ble_eq_true rfl) ⟨rfl, rfl⟩ ⟨Nat.le_of_ble_eq_true rfl, Nat.le_of_ble_eq_true rfl⟩ ?_
  exact v_vret K rfl dX6_clear_8 rfl rfl
theorem k_row_copy {G : Gs} {o k o' k' n : Nat} (hn : n < 2 ^ 31) (hR : RowAt E o k n) (hR' : RowAt E o' k' n) : Ctr l D E A yX6_copyFrom cX6_copyFrom 2 none (rmD 1) [.ref (eA E o k), .ref (eA E o' k')] (wl E G) none (wl E (rcp G o (k + 1) o' (k' + 1) n)) := by
  refine Ctr.of (own := RX6) pn_X6 rfl (Nat.le_of_ble_eq_true rfl) ?_
  intro p e s m args below meth c K
  refine v_lv (lv' := [(0, .ref (eA E o k)), (1, .ref (eA E o' k'))]) rfl ?_
  refine v_aload_n K 1 dX6_copyFrom_0 rfl rfl ?_
  refine v_get K fk_X6_7 dX6_copyFrom_1 hR'.1 (hR'.2.2.1 _) rfl ?_
  refine v_iconst K dX6_copyFrom_4 ki_0 ?_
  refine v_aload_n K 0 dX6_copyFrom_5 rfl rfl ?_
  refine v_get K fk_X6_7 dX6_copyFrom_6 hR.1 (hR.2.2.1 _) rfl ?_
  refine v_iconst K dX6_copyFrom_9 ki_0 ?_
  refine v_aload_n K 1 dX6_copyFrom_10 rfl rfl ?_
  refine v_get K fk_X6_7 dX6_copyFrom_11 hR'.1 (hR'.2.2.1 _) rfl ?_
  refine v_alen K dX6_copyFrom_14 hR'.2.1 (hR'.2.2.2 _) rfl ?_
  refine v_aload_n K 0 dX6_copyFrom_15 rfl rfl ?_
  refine v_get K fk_X6_7 dX6_copyFrom_16 hR.1 (hR.2.2.1 _) rfl ?_
  refine v_alen K dX6_copyFrom_19 hR.2.1 (hR.2.2.2 _) rfl ?_
  intro H locs ls hP hD hS hl
  refine va_mmin K.1 K.2.1 (K.2.2.1.trans hl.1.symm) K.2.2.2.1 (K.word mlX6_19) (K.word st_ib.Math.min.name) (K.word ini_javalangMath) (K.word co_ib.Math.min.name) (Nat.le_of_ble_eq_true rfl) (Nat.le_of_ble_eq_true rfl) (Nat.zero_le _) (Nat.zero_le _) dX6_copyFrom_20 ?_
  rw [if_neg Int32.lt_irrefl]
  obtain ⟨q0, hq0⟩ := wl_at G hR'.2.1
  obtain ⟨q1, hq1⟩ := wl_at G hR.2.1
  have hq1' := hq1
  rw [hR'.2.2.2] at hq0
  rw [hR.2.2.2] at hq1
  have e0 : (0 : Int32).toNatClampNeg = 0 := by decide
  refine va_copyi (ty := .int) K.1 K.2.1 (K.2.2.1.trans hl.1.symm) K.2.2.2.1 (K.word mlX6_25) (K.word nat_arraycopyName) (K.word st_rraycopyName) (K.word ini_javalangSystem) K.2.2.2.2.2.2.1.1 hP hD hS q0 q1 0 0 hq0 hq1 rfl rfl rfl (by decide) (by decide) (nI_pos hn) (by rw [e0]; show 0 + (nI n).toNatClampNeg ≤ n; rw [nI_clamp hn]; omega) (by rw [e0]; show 0 + (nI n).toNatClampNeg ≤ n; rw [nI_clamp hn]; omega) (fun _ _ => rfl) (Nat.le_of_ble_eq_true rfl) (Nat.le_of_ble_eq_true rfl) dX6_copyFrom_23 (fun H1 locs1 hP1 hD1 hS1 => ?_)
  have hset := wl_set (va_cpy (G o' (k' + 1)) (G o (k + 1)) 0 0 n) hD hR.2.1 hq1'
  rw [hR.2.2.2] at hset
  have en : (Int32.ofNat n).toNatClampNeg = n := nI_clamp hn
  rw [e0, en, hset] at hP1 hD1
  exact v_vret K rfl dX6_copyFrom_26 rfl rfl H1 locs1 ls hP1 hD1 hS1 hl
end
