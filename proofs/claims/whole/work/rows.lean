section
-- ===== PART A: goes FIRST, ahead of the names: the tables' words, and 'selects' of the private methods out of them =====
/-- a private method of a class that the tables say can be made, by its rows of tables_1 -/
def lw_okq (q : MethodName × Nat) : Prop := (q.1.cls ≠ "java/lang/invoke/MethodHandle" ∧ q.1.cls ≠ "java/lang/invoke/VarHandle") ∧ Cond.instantiable q.1.cls q.2 ∈ tables_1 ∧ Cond.privateMethod q.1 ∈ tables_1 ∧ Cond.instanceMethod q.1 ∈ tables_1
theorem lw_p0 : lw_okq (⟨"ShoutGroups$History", "stateAt", "(I)LShoutGroups$Library;"⟩, 3) := ⟨⟨by decide +kernel, by decide +kernel⟩, List.mem_of_getElem? (i := 171) (by decide +kernel), List.mem_of_getElem? (i := 283) (by decide +kernel), List.mem_of_getElem? (i := 284) (by decide +kernel)⟩
theorem lw_p1 : lw_okq (⟨"ShoutGroups", "happen", "(IIIIZ)I"⟩, 6) := ⟨⟨by decide +kernel, by decide +kernel⟩, List.mem_of_getElem? (i := 16) (by decide +kernel), List.mem_of_getElem? (i := 322) (by decide +kernel), List.mem_of_getElem? (i := 323) (by decide +kernel)⟩
theorem lw_p2 : lw_okq (⟨"ShoutGroups$Library", "noteUse", "(IZ)V"⟩, 12) := ⟨⟨by decide +kernel, by decide +kernel⟩, List.mem_of_getElem? (i := 24) (by decide +kernel), List.mem_of_getElem? (i := 362) (by decide +kernel), List.mem_of_getElem? (i := 363) (by decide +kernel)⟩
theorem lw_p3 : lw_okq (⟨"ShoutGroups$Library", "callBack", "(II)I"⟩, 12) := ⟨⟨by decide +kernel, by decide +kernel⟩, List.mem_of_getElem? (i := 24) (by decide +kernel), List.mem_of_getElem? (i := 390) (by decide +kernel), List.mem_of_getElem? (i := 391) (by decide +kernel)⟩
theorem lw_p4 : lw_okq (⟨"ShoutGroups$Library", "takeAway", "(II)V"⟩, 12) := ⟨⟨by decide +kernel, by decide +kernel⟩, List.mem_of_getElem? (i := 24) (by decide +kernel), List.mem_of_getElem? (i := 408) (by decide +kernel), List.mem_of_getElem? (i := 409) (by decide +kernel)⟩
theorem lw_p5 : lw_okq (⟨"ShoutGroups$Library", "makeRoom", "(I)V"⟩, 12) := ⟨⟨by decide +kernel, by decide +kernel⟩, List.mem_of_getElem? (i := 24) (by decide +kernel), List.mem_of_getElem? (i := 417) (by decide +kernel), List.mem_of_getElem? (i := 418) (by decide +kernel)⟩
theorem lw_p6 : lw_okq (⟨"ShoutGroups$Library", "copiesInTheWay", "(I)I"⟩, 12) := ⟨⟨by decide +kernel, by decide +kernel⟩, List.mem_of_getElem? (i := 24) (by decide +kernel), List.mem_of_getElem? (i := 421) (by decide +kernel), List.mem_of_getElem? (i := 422) (by decide +kernel)⟩
theorem lw_p7 : lw_okq (⟨"ShoutGroups$Library", "messagesToMakeRoom", "(I)I"⟩, 12) := ⟨⟨by decide +kernel, by decide +kernel⟩, List.mem_of_getElem? (i := 24) (by decide +kernel), List.mem_of_getElem? (i := 534) (by decide +kernel), List.mem_of_getElem? (i := 535) (by decide +kernel)⟩
theorem lw_p8 : lw_okq (⟨"ShoutGroups$Orders", "take", "(I)Z"⟩, 7) := ⟨⟨by decide +kernel, by decide +kernel⟩, List.mem_of_getElem? (i := 208) (by decide +kernel), List.mem_of_getElem? (i := 635) (by decide +kernel), List.mem_of_getElem? (i := 636) (by decide +kernel)⟩
theorem lw_p9 : lw_okq (⟨"ShoutGroups$Orders", "takeKind", "()Z"⟩, 7) := ⟨⟨by decide +kernel, by decide +kernel⟩, List.mem_of_getElem? (i := 208) (by decide +kernel), List.mem_of_getElem? (i := 644) (by decide +kernel), List.mem_of_getElem? (i := 645) (by decide +kernel)⟩
theorem lw_p10 : lw_okq (⟨"ShoutGroups$Orders", "takeReader", "()Z"⟩, 7) := ⟨⟨by decide +kernel, by decide +kernel⟩, List.mem_of_getElem? (i := 208) (by decide +kernel), List.mem_of_getElem? (i := 651) (by decide +kernel), List.mem_of_getElem? (i := 652) (by decide +kernel)⟩
theorem lw_p11 : lw_okq (⟨"ShoutGroups$Orders", "takeNumber", "()Z"⟩, 7) := ⟨⟨by decide +kernel, by decide +kernel⟩, List.mem_of_getElem? (i := 208) (by decide +kernel), List.mem_of_getElem? (i := 655) (by decide +kernel), List.mem_of_getElem? (i := 656) (by decide +kernel)⟩
theorem lw_p12 : lw_okq (⟨"ShoutGroups$Orders", "takeNote", "()Z"⟩, 7) := ⟨⟨by decide +kernel, by decide +kernel⟩, List.mem_of_getElem? (i := 208) (by decide +kernel), List.mem_of_getElem? (i := 662) (by decide +kernel), List.mem_of_getElem? (i := 663) (by decide +kernel)⟩
theorem lw_p13 : lw_okq (⟨"ShoutGroups$Orders", "takeValue", "()Z"⟩, 7) := ⟨⟨by decide +kernel, by decide +kernel⟩, List.mem_of_getElem? (i := 208) (by decide +kernel), List.mem_of_getElem? (i := 666) (by decide +kernel), List.mem_of_getElem? (i := 667) (by decide +kernel)⟩
theorem lw_p14 : lw_okq (⟨"ShoutGroupsModel", "tryRead", "(IIZ)I"⟩, 14) := ⟨⟨by decide +kernel, by decide +kernel⟩, List.mem_of_getElem? (i := 692) (by decide +kernel), List.mem_of_getElem? (i := 746) (by decide +kernel), List.mem_of_getElem? (i := 747) (by decide +kernel)⟩
theorem lw_p15 : lw_okq (⟨"ShoutGroupsModel", "keepIf", "(Z)V"⟩, 14) := ⟨⟨by decide +kernel, by decide +kernel⟩, List.mem_of_getElem? (i := 692) (by decide +kernel), List.mem_of_getElem? (i := 759) (by decide +kernel), List.mem_of_getElem? (i := 760) (by decide +kernel)⟩
def lw_privs_1 : List (MethodName × Nat) := [(⟨"ShoutGroups$History", "stateAt", "(I)LShoutGroups$Library;"⟩, 3), (⟨"ShoutGroups", "happen", "(IIIIZ)I"⟩, 6), (⟨"ShoutGroups$Library", "noteUse", "(IZ)V"⟩, 12), (⟨"ShoutGroups$Library", "callBack", "(II)I"⟩, 12), (⟨"ShoutGroups$Library", "takeAway", "(II)V"⟩, 12), (⟨"ShoutGroups$Library", "makeRoom", "(I)V"⟩, 12), (⟨"ShoutGroups$Library", "copiesInTheWay", "(I)I"⟩, 12), (⟨"ShoutGroups$Library", "messagesToMakeRoom", "(I)I"⟩, 12), (⟨"ShoutGroups$Orders", "take", "(I)Z"⟩, 7), (⟨"ShoutGroups$Orders", "takeKind", "()Z"⟩, 7), (⟨"ShoutGroups$Orders", "takeReader", "()Z"⟩, 7), (⟨"ShoutGroups$Orders", "takeNumber", "()Z"⟩, 7), (⟨"ShoutGroups$Orders", "takeNote", "()Z"⟩, 7), (⟨"ShoutGroups$Orders", "takeValue", "()Z"⟩, 7), (⟨"ShoutGroupsModel", "tryRead", "(IIZ)I"⟩, 14), (⟨"ShoutGroupsModel", "keepIf", "(Z)V"⟩, 14)]
theorem lw_r1 : ∀ q ∈ lw_privs_1, lw_okq q := List.forall_mem_cons.mpr ⟨lw_p0, List.forall_mem_cons.mpr ⟨lw_p1, List.forall_mem_cons.mpr ⟨lw_p2, List.forall_mem_cons.mpr ⟨lw_p3, List.forall_mem_cons.mpr ⟨lw_p4, List.forall_mem_cons.mpr ⟨lw_p5, List.forall_mem_cons.mpr ⟨lw_p6, List.forall_mem_cons.mpr ⟨lw_p7, List.forall_mem_cons.mpr ⟨lw_p8, List.forall_mem_cons.mpr ⟨lw_p9, List.forall_mem_cons.mpr ⟨lw_p10, List.forall_mem_cons.mpr ⟨lw_p11, List.forall_mem_cons.mpr ⟨lw_p12, List.forall_mem_cons.mpr ⟨lw_p13, List.forall_mem_cons.mpr ⟨lw_p14, List.forall_mem_cons.mpr ⟨lw_p15, fun _ h => absurd h List.not_mem_nil⟩⟩⟩⟩⟩⟩⟩⟩⟩⟩⟩⟩⟩⟩⟩⟩
theorem lw_p16 : lw_okq (⟨"ShoutGroupsModel", "keep", "()V"⟩, 14) := ⟨⟨by decide +kernel, by decide +kernel⟩, List.mem_of_getElem? (i := 692) (by decide +kernel), List.mem_of_getElem? (i := 763) (by decide +kernel), List.mem_of_getElem? (i := 764) (by decide +kernel)⟩
theorem lw_p17 : lw_okq (⟨"ShoutGroupsModel", "enter", "(III)V"⟩, 14) := ⟨⟨by decide +kernel, by decide +kernel⟩, List.mem_of_getElem? (i := 692) (by decide +kernel), List.mem_of_getElem? (i := 767) (by decide +kernel), List.mem_of_getElem? (i := 768) (by decide +kernel)⟩
theorem lw_p18 : lw_okq (⟨"ShoutGroupsModel", "reads", "(II)I"⟩, 14) := ⟨⟨by decide +kernel, by decide +kernel⟩, List.mem_of_getElem? (i := 692) (by decide +kernel), List.mem_of_getElem? (i := 771) (by decide +kernel), List.mem_of_getElem? (i := 772) (by decide +kernel)⟩
theorem lw_p19 : lw_okq (⟨"ShoutGroupsModel", "moreR", "(III)V"⟩, 14) := ⟨⟨by decide +kernel, by decide +kernel⟩, List.mem_of_getElem? (i := 692) (by decide +kernel), List.mem_of_getElem? (i := 775) (by decide +kernel), List.mem_of_getElem? (i := 776) (by decide +kernel)⟩
theorem lw_p20 : lw_okq (⟨"ShoutGroupsModel", "placeOf", "(II)I"⟩, 14) := ⟨⟨by decide +kernel, by decide +kernel⟩, List.mem_of_getElem? (i := 692) (by decide +kernel), List.mem_of_getElem? (i := 779) (by decide +kernel), List.mem_of_getElem? (i := 780) (by decide +kernel)⟩
theorem lw_p21 : lw_okq (⟨"ShoutGroupsModel", "ofR", "(II)I"⟩, 14) := ⟨⟨by decide +kernel, by decide +kernel⟩, List.mem_of_getElem? (i := 692) (by decide +kernel), List.mem_of_getElem? (i := 783) (by decide +kernel), List.mem_of_getElem? (i := 784) (by decide +kernel)⟩
theorem lw_p22 : lw_okq (⟨"ShoutGroupsModel", "ofC", "(III)I"⟩, 14) := ⟨⟨by decide +kernel, by decide +kernel⟩, List.mem_of_getElem? (i := 692) (by decide +kernel), List.mem_of_getElem? (i := 787) (by decide +kernel), List.mem_of_getElem? (i := 788) (by decide +kernel)⟩
theorem lw_p23 : lw_okq (⟨"ShoutGroupsModel", "use", "(II)V"⟩, 14) := ⟨⟨by decide +kernel, by decide +kernel⟩, List.mem_of_getElem? (i := 692) (by decide +kernel), List.mem_of_getElem? (i := 791) (by decide +kernel), List.mem_of_getElem? (i := 792) (by decide +kernel)⟩
theorem lw_p24 : lw_okq (⟨"ShoutGroupsModel", "takeOff", "(II)V"⟩, 14) := ⟨⟨by decide +kernel, by decide +kernel⟩, List.mem_of_getElem? (i := 692) (by decide +kernel), List.mem_of_getElem? (i := 795) (by decide +kernel), List.mem_of_getElem? (i := 796) (by decide +kernel)⟩
theorem lw_p25 : lw_okq (⟨"ShoutGroupsModel", "layOn", "(IIII)V"⟩, 14) := ⟨⟨by decide +kernel, by decide +kernel⟩, List.mem_of_getElem? (i := 692) (by decide +kernel), List.mem_of_getElem? (i := 799) (by decide +kernel), List.mem_of_getElem? (i := 800) (by decide +kernel)⟩
theorem lw_p26 : lw_okq (⟨"ShoutGroupsModel", "layC", "(IIII)V"⟩, 14) := ⟨⟨by decide +kernel, by decide +kernel⟩, List.mem_of_getElem? (i := 692) (by decide +kernel), List.mem_of_getElem? (i := 803) (by decide +kernel), List.mem_of_getElem? (i := 804) (by decide +kernel)⟩
theorem lw_p27 : lw_okq (⟨"ShoutGroupsModel", "ofN", "(II)I"⟩, 14) := ⟨⟨by decide +kernel, by decide +kernel⟩, List.mem_of_getElem? (i := 692) (by decide +kernel), List.mem_of_getElem? (i := 807) (by decide +kernel), List.mem_of_getElem? (i := 808) (by decide +kernel)⟩
theorem lw_p28 : lw_okq (⟨"ShoutGroupsModel", "callBackBut", "(II)V"⟩, 14) := ⟨⟨by decide +kernel, by decide +kernel⟩, List.mem_of_getElem? (i := 692) (by decide +kernel), List.mem_of_getElem? (i := 811) (by decide +kernel), List.mem_of_getElem? (i := 812) (by decide +kernel)⟩
theorem lw_p29 : lw_okq (⟨"ShoutGroupsModel", "called", "(I)I"⟩, 14) := ⟨⟨by decide +kernel, by decide +kernel⟩, List.mem_of_getElem? (i := 692) (by decide +kernel), List.mem_of_getElem? (i := 815) (by decide +kernel), List.mem_of_getElem? (i := 816) (by decide +kernel)⟩
theorem lw_p30 : lw_okq (⟨"ShoutGroupsModel", "group", "(I)I"⟩, 14) := ⟨⟨by decide +kernel, by decide +kernel⟩, List.mem_of_getElem? (i := 692) (by decide +kernel), List.mem_of_getElem? (i := 819) (by decide +kernel), List.mem_of_getElem? (i := 820) (by decide +kernel)⟩
theorem lw_p31 : lw_okq (⟨"ShoutGroupsModel", "callBack", "(II)V"⟩, 14) := ⟨⟨by decide +kernel, by decide +kernel⟩, List.mem_of_getElem? (i := 692) (by decide +kernel), List.mem_of_getElem? (i := 826) (by decide +kernel), List.mem_of_getElem? (i := 827) (by decide +kernel)⟩
def lw_privs_2 : List (MethodName × Nat) := [(⟨"ShoutGroupsModel", "keep", "()V"⟩, 14), (⟨"ShoutGroupsModel", "enter", "(III)V"⟩, 14), (⟨"ShoutGroupsModel", "reads", "(II)I"⟩, 14), (⟨"ShoutGroupsModel", "moreR", "(III)V"⟩, 14), (⟨"ShoutGroupsModel", "placeOf", "(II)I"⟩, 14), (⟨"ShoutGroupsModel", "ofR", "(II)I"⟩, 14), (⟨"ShoutGroupsModel", "ofC", "(III)I"⟩, 14), (⟨"ShoutGroupsModel", "use", "(II)V"⟩, 14), (⟨"ShoutGroupsModel", "takeOff", "(II)V"⟩, 14), (⟨"ShoutGroupsModel", "layOn", "(IIII)V"⟩, 14), (⟨"ShoutGroupsModel", "layC", "(IIII)V"⟩, 14), (⟨"ShoutGroupsModel", "ofN", "(II)I"⟩, 14), (⟨"ShoutGroupsModel", "callBackBut", "(II)V"⟩, 14), (⟨"ShoutGroupsModel", "called", "(I)I"⟩, 14), (⟨"ShoutGroupsModel", "group", "(I)I"⟩, 14), (⟨"ShoutGroupsModel", "callBack", "(II)V"⟩, 14)]
theorem lw_r2 : ∀ q ∈ lw_privs_2, lw_okq q := List.forall_mem_cons.mpr ⟨lw_p16, List.forall_mem_cons.mpr ⟨lw_p17, List.forall_mem_cons.mpr ⟨lw_p18, List.forall_mem_cons.mpr ⟨lw_p19, List.forall_mem_cons.mpr ⟨lw_p20, List.forall_mem_cons.mpr ⟨lw_p21, List.forall_mem_cons.mpr ⟨lw_p22, List.forall_mem_cons.mpr ⟨lw_p23, List.forall_mem_cons.mpr ⟨lw_p24, List.forall_mem_cons.mpr ⟨lw_p25, List.forall_mem_cons.mpr ⟨lw_p26, List.forall_mem_cons.mpr ⟨lw_p27, List.forall_mem_cons.mpr ⟨lw_p28, List.forall_mem_cons.mpr ⟨lw_p29, List.forall_mem_cons.mpr ⟨lw_p30, List.forall_mem_cons.mpr ⟨lw_p31, fun _ h => absurd h List.not_mem_nil⟩⟩⟩⟩⟩⟩⟩⟩⟩⟩⟩⟩⟩⟩⟩⟩
theorem lw_p32 : lw_okq (⟨"ShoutGroupsModel", "giveBack", "(II)V"⟩, 14) := ⟨⟨by decide +kernel, by decide +kernel⟩, List.mem_of_getElem? (i := 692) (by decide +kernel), List.mem_of_getElem? (i := 830) (by decide +kernel), List.mem_of_getElem? (i := 831) (by decide +kernel)⟩
theorem lw_p33 : lw_okq (⟨"ShoutGroupsModel", "layN", "(III)V"⟩, 14) := ⟨⟨by decide +kernel, by decide +kernel⟩, List.mem_of_getElem? (i := 692) (by decide +kernel), List.mem_of_getElem? (i := 834) (by decide +kernel), List.mem_of_getElem? (i := 835) (by decide +kernel)⟩
theorem lw_p34 : lw_okq (⟨"ShoutGroupsModel", "layCard", "(III)V"⟩, 14) := ⟨⟨by decide +kernel, by decide +kernel⟩, List.mem_of_getElem? (i := 692) (by decide +kernel), List.mem_of_getElem? (i := 838) (by decide +kernel), List.mem_of_getElem? (i := 839) (by decide +kernel)⟩
theorem lw_p35 : lw_okq (⟨"ShoutGroupsModel", "ask", "(II)V"⟩, 14) := ⟨⟨by decide +kernel, by decide +kernel⟩, List.mem_of_getElem? (i := 692) (by decide +kernel), List.mem_of_getElem? (i := 842) (by decide +kernel), List.mem_of_getElem? (i := 843) (by decide +kernel)⟩
theorem lw_p36 : lw_okq (⟨"ShoutGroupsModel", "makeRoom", "(I)V"⟩, 14) := ⟨⟨by decide +kernel, by decide +kernel⟩, List.mem_of_getElem? (i := 692) (by decide +kernel), List.mem_of_getElem? (i := 846) (by decide +kernel), List.mem_of_getElem? (i := 847) (by decide +kernel)⟩
theorem lw_p37 : lw_okq (⟨"ShoutGroupsModel", "returned", "(II)I"⟩, 14) := ⟨⟨by decide +kernel, by decide +kernel⟩, List.mem_of_getElem? (i := 692) (by decide +kernel), List.mem_of_getElem? (i := 850) (by decide +kernel), List.mem_of_getElem? (i := 851) (by decide +kernel)⟩
theorem lw_p38 : lw_okq (⟨"ShoutGroupsModel", "strike", "(II)V"⟩, 14) := ⟨⟨by decide +kernel, by decide +kernel⟩, List.mem_of_getElem? (i := 692) (by decide +kernel), List.mem_of_getElem? (i := 854) (by decide +kernel), List.mem_of_getElem? (i := 855) (by decide +kernel)⟩
theorem lw_p39 : lw_okq (⟨"ShoutGroupsModel", "writeOn", "(II)V"⟩, 14) := ⟨⟨by decide +kernel, by decide +kernel⟩, List.mem_of_getElem? (i := 692) (by decide +kernel), List.mem_of_getElem? (i := 858) (by decide +kernel), List.mem_of_getElem? (i := 859) (by decide +kernel)⟩
theorem lw_p40 : lw_okq (⟨"ShoutGroupsModel", "groupsOf", "(I)I"⟩, 14) := ⟨⟨by decide +kernel, by decide +kernel⟩, List.mem_of_getElem? (i := 692) (by decide +kernel), List.mem_of_getElem? (i := 865) (by decide +kernel), List.mem_of_getElem? (i := 866) (by decide +kernel)⟩
theorem lw_p41 : lw_okq (⟨"ShoutGroupsModel", "tryChange", "(IIIZ)I"⟩, 14) := ⟨⟨by decide +kernel, by decide +kernel⟩, List.mem_of_getElem? (i := 692) (by decide +kernel), List.mem_of_getElem? (i := 873) (by decide +kernel), List.mem_of_getElem? (i := 874) (by decide +kernel)⟩
theorem lw_p42 : lw_okq (⟨"ShoutGroupsModel", "changes", "(III)I"⟩, 14) := ⟨⟨by decide +kernel, by decide +kernel⟩, List.mem_of_getElem? (i := 692) (by decide +kernel), List.mem_of_getElem? (i := 877) (by decide +kernel), List.mem_of_getElem? (i := 878) (by decide +kernel)⟩
theorem lw_p43 : lw_okq (⟨"ShoutGroupsModel", "tryPutBack", "(IIZ)I"⟩, 14) := ⟨⟨by decide +kernel, by decide +kernel⟩, List.mem_of_getElem? (i := 692) (by decide +kernel), List.mem_of_getElem? (i := 885) (by decide +kernel), List.mem_of_getElem? (i := 886) (by decide +kernel)⟩
theorem lw_p44 : lw_okq (⟨"ShoutGroupsModel", "tryRecall", "(IZ)I"⟩, 14) := ⟨⟨by decide +kernel, by decide +kernel⟩, List.mem_of_getElem? (i := 692) (by decide +kernel), List.mem_of_getElem? (i := 893) (by decide +kernel), List.mem_of_getElem? (i := 894) (by decide +kernel)⟩
theorem lw_p45 : lw_okq (⟨"ShoutGroupsModel", "cardsThat", "(II)I"⟩, 14) := ⟨⟨by decide +kernel, by decide +kernel⟩, List.mem_of_getElem? (i := 692) (by decide +kernel), List.mem_of_getElem? (i := 901) (by decide +kernel), List.mem_of_getElem? (i := 902) (by decide +kernel)⟩
theorem lw_p46 : lw_okq (⟨"ShoutGroupsModel", "holders", "(I)I"⟩, 14) := ⟨⟨by decide +kernel, by decide +kernel⟩, List.mem_of_getElem? (i := 692) (by decide +kernel), List.mem_of_getElem? (i := 909) (by decide +kernel), List.mem_of_getElem? (i := 910) (by decide +kernel)⟩
theorem lw_p47 : lw_okq (⟨"ShoutGroupsModel", "valueNow", "(I)I"⟩, 14) := ⟨⟨by decide +kernel, by decide +kernel⟩, List.mem_of_getElem? (i := 692) (by decide +kernel), List.mem_of_getElem? (i := 913) (by decide +kernel), List.mem_of_getElem? (i := 914) (by decide +kernel)⟩
def lw_privs_3 : List (MethodName × Nat) := [(⟨"ShoutGroupsModel", "giveBack", "(II)V"⟩, 14), (⟨"ShoutGroupsModel", "layN", "(III)V"⟩, 14), (⟨"ShoutGroupsModel", "layCard", "(III)V"⟩, 14), (⟨"ShoutGroupsModel", "ask", "(II)V"⟩, 14), (⟨"ShoutGroupsModel", "makeRoom", "(I)V"⟩, 14), (⟨"ShoutGroupsModel", "returned", "(II)I"⟩, 14), (⟨"ShoutGroupsModel", "strike", "(II)V"⟩, 14), (⟨"ShoutGroupsModel", "writeOn", "(II)V"⟩, 14), (⟨"ShoutGroupsModel", "groupsOf", "(I)I"⟩, 14), (⟨"ShoutGroupsModel", "tryChange", "(IIIZ)I"⟩, 14), (⟨"ShoutGroupsModel", "changes", "(III)I"⟩, 14), (⟨"ShoutGroupsModel", "tryPutBack", "(IIZ)I"⟩, 14), (⟨"ShoutGroupsModel", "tryRecall", "(IZ)I"⟩, 14), (⟨"ShoutGroupsModel", "cardsThat", "(II)I"⟩, 14), (⟨"ShoutGroupsModel", "holders", "(I)I"⟩, 14), (⟨"ShoutGroupsModel", "valueNow", "(I)I"⟩, 14)]
theorem lw_r3 : ∀ q ∈ lw_privs_3, lw_okq q := List.forall_mem_cons.mpr ⟨lw_p32, List.forall_mem_cons.mpr ⟨lw_p33, List.forall_mem_cons.mpr ⟨lw_p34, List.forall_mem_cons.mpr ⟨lw_p35, List.forall_mem_cons.mpr ⟨lw_p36, List.forall_mem_cons.mpr ⟨lw_p37, List.forall_mem_cons.mpr ⟨lw_p38, List.forall_mem_cons.mpr ⟨lw_p39, List.forall_mem_cons.mpr ⟨lw_p40, List.forall_mem_cons.mpr ⟨lw_p41, List.forall_mem_cons.mpr ⟨lw_p42, List.forall_mem_cons.mpr ⟨lw_p43, List.forall_mem_cons.mpr ⟨lw_p44, List.forall_mem_cons.mpr ⟨lw_p45, List.forall_mem_cons.mpr ⟨lw_p46, List.forall_mem_cons.mpr ⟨lw_p47, fun _ h => absurd h List.not_mem_nil⟩⟩⟩⟩⟩⟩⟩⟩⟩⟩⟩⟩⟩⟩⟩⟩
theorem lw_p48 : lw_okq (⟨"ShoutGroupsModel", "callers", "(I)I"⟩, 14) := ⟨⟨by decide +kernel, by decide +kernel⟩, List.mem_of_getElem? (i := 692) (by decide +kernel), List.mem_of_getElem? (i := 925) (by decide +kernel), List.mem_of_getElem? (i := 926) (by decide +kernel)⟩
theorem lw_p49 : lw_okq (⟨"ShoutGroupsModel", "copies", "(Z)I"⟩, 14) := ⟨⟨by decide +kernel, by decide +kernel⟩, List.mem_of_getElem? (i := 692) (by decide +kernel), List.mem_of_getElem? (i := 933) (by decide +kernel), List.mem_of_getElem? (i := 934) (by decide +kernel)⟩
theorem lw_p50 : lw_okq (⟨"ShoutGroupsModel", "layAside", "()V"⟩, 14) := ⟨⟨by decide +kernel, by decide +kernel⟩, List.mem_of_getElem? (i := 692) (by decide +kernel), List.mem_of_getElem? (i := 941) (by decide +kernel), List.mem_of_getElem? (i := 942) (by decide +kernel)⟩
theorem lw_p51 : lw_okq (⟨"ShoutGroupsModel", "layBack", "()V"⟩, 14) := ⟨⟨by decide +kernel, by decide +kernel⟩, List.mem_of_getElem? (i := 692) (by decide +kernel), List.mem_of_getElem? (i := 945) (by decide +kernel), List.mem_of_getElem? (i := 946) (by decide +kernel)⟩
theorem lw_p52 : lw_okq (⟨"ShoutGroupsModel", "cost", "(III)I"⟩, 14) := ⟨⟨by decide +kernel, by decide +kernel⟩, List.mem_of_getElem? (i := 692) (by decide +kernel), List.mem_of_getElem? (i := 953) (by decide +kernel), List.mem_of_getElem? (i := 954) (by decide +kernel)⟩
theorem lw_p53 : lw_okq (⟨"ShoutGroupsModel", "fewestWasted", "(I)I"⟩, 14) := ⟨⟨by decide +kernel, by decide +kernel⟩, List.mem_of_getElem? (i := 692) (by decide +kernel), List.mem_of_getElem? (i := 965) (by decide +kernel), List.mem_of_getElem? (i := 966) (by decide +kernel)⟩
theorem lw_p54 : lw_okq (⟨"ShoutGroupsModel", "messagesWith", "(II)I"⟩, 14) := ⟨⟨by decide +kernel, by decide +kernel⟩, List.mem_of_getElem? (i := 692) (by decide +kernel), List.mem_of_getElem? (i := 973) (by decide +kernel), List.mem_of_getElem? (i := 974) (by decide +kernel)⟩
theorem lw_p55 : lw_okq (⟨"ShoutGroupsModel", "takeOrder", "()V"⟩, 14) := ⟨⟨by decide +kernel, by decide +kernel⟩, List.mem_of_getElem? (i := 692) (by decide +kernel), List.mem_of_getElem? (i := 998) (by decide +kernel), List.mem_of_getElem? (i := 999) (by decide +kernel)⟩
theorem lw_p56 : lw_okq (⟨"ShoutGroupsModel", "next", "()I"⟩, 14) := ⟨⟨by decide +kernel, by decide +kernel⟩, List.mem_of_getElem? (i := 692) (by decide +kernel), List.mem_of_getElem? (i := 1002) (by decide +kernel), List.mem_of_getElem? (i := 1003) (by decide +kernel)⟩
theorem lw_p57 : lw_okq (⟨"ShoutGroupsModel", "takeNumber", "(I)V"⟩, 14) := ⟨⟨by decide +kernel, by decide +kernel⟩, List.mem_of_getElem? (i := 692) (by decide +kernel), List.mem_of_getElem? (i := 1006) (by decide +kernel), List.mem_of_getElem? (i := 1007) (by decide +kernel)⟩
theorem lw_p58 : lw_okq (⟨"ShoutGroupsModel", "takeSign", "(I)V"⟩, 14) := ⟨⟨by decide +kernel, by decide +kernel⟩, List.mem_of_getElem? (i := 692) (by decide +kernel), List.mem_of_getElem? (i := 1010) (by decide +kernel), List.mem_of_getElem? (i := 1011) (by decide +kernel)⟩
theorem lw_p59 : lw_okq (⟨"ShoutGroupsModel", "carry", "(I)I"⟩, 14) := ⟨⟨by decide +kernel, by decide +kernel⟩, List.mem_of_getElem? (i := 692) (by decide +kernel), List.mem_of_getElem? (i := 1019) (by decide +kernel), List.mem_of_getElem? (i := 1020) (by decide +kernel)⟩
def lw_privs_4 : List (MethodName × Nat) := [(⟨"ShoutGroupsModel", "callers", "(I)I"⟩, 14), (⟨"ShoutGroupsModel", "copies", "(Z)I"⟩, 14), (⟨"ShoutGroupsModel", "layAside", "()V"⟩, 14), (⟨"ShoutGroupsModel", "layBack", "()V"⟩, 14), (⟨"ShoutGroupsModel", "cost", "(III)I"⟩, 14), (⟨"ShoutGroupsModel", "fewestWasted", "(I)I"⟩, 14), (⟨"ShoutGroupsModel", "messagesWith", "(II)I"⟩, 14), (⟨"ShoutGroupsModel", "takeOrder", "()V"⟩, 14), (⟨"ShoutGroupsModel", "next", "()I"⟩, 14), (⟨"ShoutGroupsModel", "takeNumber", "(I)V"⟩, 14), (⟨"ShoutGroupsModel", "takeSign", "(I)V"⟩, 14), (⟨"ShoutGroupsModel", "carry", "(I)I"⟩, 14)]
theorem lw_r4 : ∀ q ∈ lw_privs_4, lw_okq q := List.forall_mem_cons.mpr ⟨lw_p48, List.forall_mem_cons.mpr ⟨lw_p49, List.forall_mem_cons.mpr ⟨lw_p50, List.forall_mem_cons.mpr ⟨lw_p51, List.forall_mem_cons.mpr ⟨lw_p52, List.forall_mem_cons.mpr ⟨lw_p53, List.forall_mem_cons.mpr ⟨lw_p54, List.forall_mem_cons.mpr ⟨lw_p55, List.forall_mem_cons.mpr ⟨lw_p56, List.forall_mem_cons.mpr ⟨lw_p57, List.forall_mem_cons.mpr ⟨lw_p58, List.forall_mem_cons.mpr ⟨lw_p59, fun _ h => absurd h List.not_mem_nil⟩⟩⟩⟩⟩⟩⟩⟩⟩⟩⟩⟩
def lw_privs : List (MethodName × Nat) := lw_privs_1 ++ (lw_privs_2 ++ (lw_privs_3 ++ (lw_privs_4)))
def lw_tbl : List Cond := k2_sels lw_privs ++ tables_1
theorem lw_privs_ok : ∀ q ∈ lw_privs, lw_okq q := by
  show ∀ q ∈ lw_privs_1 ++ (lw_privs_2 ++ (lw_privs_3 ++ (lw_privs_4))), lw_okq q
  exact List.forall_mem_append.mpr ⟨lw_r1, List.forall_mem_append.mpr ⟨lw_r2, List.forall_mem_append.mpr ⟨lw_r3, lw_r4⟩⟩⟩
-- ===== end of PART A; then your names; then what follows =====
end
section
theorem goodIn_r {big : List Cond} (ws : List Cond) (ps : List Nat) (hp : ws = ps.filterMap (fun i => big[i]?)) (h : ws.all goodWord = true) : GoodIn big ws := by
  intro w hw
  have h1 := List.all_eq_true.mp h w hw
  rw [hp] at hw
  obtain ⟨i, -, hi⟩ := List.mem_filterMap.mp hw
  have hm : w ∈ big := by first | exact List.mem_of_getElem? hi | exact List.getElem?_mem hi
  exact ⟨hm, good_of_word h1⟩
theorem goodIn_app {big a b : List Cond} (ha : GoodIn big a) (hb : GoodIn big b) : GoodIn big (a ++ b) := fun w h => (List.mem_append.mp h).elim (ha w) (hb w)
theorem goodIn_ca {big a b : List Cond} {c : Cond} (ha : GoodIn big (c :: a)) (hb : GoodIn big b) : GoodIn big (c :: (a ++ b)) := fun w h => (List.mem_cons.mp h).elim (fun e => ha w (List.mem_cons.mpr (Or.inl e))) (fun h => (List.mem_append.mp h).elim (fun h => ha w (List.mem_cons.mpr (Or.inr h))) (hb w))
theorem goodIn_sub {big ws : List Cond} (hm : ∀ w ∈ ws, w ∈ big) (h : ws.all goodWord = true) : GoodIn big ws := fun w hw => ⟨hm w hw, good_of_word (List.all_eq_true.mp h w hw)⟩
def RX0 : String := "ShoutGroups$Account"
def TX0 : u_T := fun k => match k with
  | 0 => ("ShoutGroups$Account", "kinds", "LShoutGroups$Row;", true)
  | 1 => ("ShoutGroups$Account", "readers", "LShoutGroups$Row;", true)
  | 2 => ("ShoutGroups$Account", "notes", "LShoutGroups$Row;", true)
  | 3 => ("ShoutGroups$Account", "first", "I", false)
  | _ => ("ShoutGroups$Account", "length", "I", false)
def tyX0 : Nat → FieldType := fun k => match k with
  | 0 => .object "ShoutGroups$Row"
  | 1 => .object "ShoutGroups$Row"
  | 2 => .object "ShoutGroups$Row"
  | 3 => .int
  | _ => .int
abbrev wsX00 : List Cond := u_ws RX0 TX0 5
theorem nmX0 : ∀ a, a < 5 → ∀ b, b < 5 → a ≠ b → (TX0 a).2.1 ≠ (TX0 b).2.1 := by decide +kernel
theorem tyX0_ok : ∀ k, k < 5 → parseFieldDescriptor (TX0 k).2.2.1 = some (tyX0 k) := by decide +kernel
abbrev cX0_init : ByteArray := prog_2_method_1_code
def yX0_init : MethodName := ⟨RX0, "<init>", "()V"⟩
abbrev cX0_cellOf : ByteArray := prog_2_method_2_code
def yX0_cellOf : MethodName := ⟨RX0, "cellOf", "(I)I"⟩
abbrev cX0_append : ByteArray := prog_2_method_3_code
def yX0_append : MethodName := ⟨RX0, "append", "(III)V"⟩
abbrev cX0_clear : ByteArray := prog_2_method_4_code
def yX0_clear : MethodName := ⟨RX0, "clear", "()V"⟩
abbrev cX0_copyFrom : ByteArray := prog_2_method_5_code
def yX0_copyFrom : MethodName := ⟨RX0, "copyFrom", "(LShoutGroups$Account;)V"⟩
def RX1 : String := "ShoutGroups$Cards"
def TX1 : u_T := fun k => match k with
  | 0 => ("ShoutGroups$Cards", "kinds", "LShoutGroups$Row;", true)
  | _ => ("ShoutGroups$Cards", "names", "LShoutGroups$Row;", true)
def tyX1 : Nat → FieldType := fun k => match k with
  | 0 => .object "ShoutGroups$Row"
  | _ => .object "ShoutGroups$Row"
abbrev wsX10 : List Cond := u_ws RX1 TX1 2
theorem nmX1 : ∀ a, a < 2 → ∀ b, b < 2 → a ≠ b → (TX1 a).2.1 ≠ (TX1 b).2.1 := by decide +kernel
theorem tyX1_ok : ∀ k, k < 2 → parseFieldDescriptor (TX1 k).2.2.1 = some (tyX1 k) := by decide +kernel
abbrev cX1_init : ByteArray := prog_3_method_1_code
def yX1_init : MethodName := ⟨RX1, "<init>", "()V"⟩
abbrev cX1_isOwnedBy : ByteArray := prog_3_method_2_code
def yX1_isOwnedBy : MethodName := ⟨RX1, "isOwnedBy", "(II)Z"⟩
abbrev cX1_called : ByteArray := prog_3_method_3_code
def yX1_called : MethodName := ⟨RX1, "called", "(II)I"⟩
abbrev cX1_become : ByteArray := prog_3_method_4_code
def yX1_become : MethodName := ⟨RX1, "become", "(III)V"⟩
abbrev cX1_name : ByteArray := prog_3_method_5_code
def yX1_name : MethodName := ⟨RX1, "name", "(IIII)V"⟩
abbrev cX1_strike : ByteArray := prog_3_method_6_code
def yX1_strike : MethodName := ⟨RX1, "strike", "(II)V"⟩
abbrev cX1_howManyInUse : ByteArray := prog_3_method_7_code
def yX1_howManyInUse : MethodName := ⟨RX1, "howManyInUse", "()I"⟩
abbrev cX1_howManyGrouped : ByteArray := prog_3_method_8_code
def yX1_howManyGrouped : MethodName := ⟨RX1, "howManyGrouped", "()I"⟩
abbrev cX1_clear : ByteArray := prog_3_method_9_code
def yX1_clear : MethodName := ⟨RX1, "clear", "()V"⟩
abbrev cX1_copyFrom : ByteArray := prog_3_method_10_code
def yX1_copyFrom : MethodName := ⟨RX1, "copyFrom", "(LShoutGroups$Cards;)V"⟩
abbrev cX1_groupsOf : ByteArray := prog_3_method_11_code
def yX1_groupsOf : MethodName := ⟨RX1, "groupsOf", "(II)I"⟩
def RX2 : String := "ShoutGroups$History"
def TX2 : u_T := fun k => match k with
  | 0 => ("ShoutGroups$History", "states", "[LShoutGroups$Library;", true)
  | 1 => ("ShoutGroups$History", "first", "I", false)
  | _ => ("ShoutGroups$History", "length", "I", false)
def tyX2 : Nat → FieldType := fun k => match k with
  | 0 => .array (.object "ShoutGroups$Library")
  | 1 => .int
  | _ => .int
abbrev wsX20 : List Cond := u_ws RX2 TX2 3
theorem nmX2 : ∀ a, a < 3 → ∀ b, b < 3 → a ≠ b → (TX2 a).2.1 ≠ (TX2 b).2.1 := by decide +kernel
theorem tyX2_ok : ∀ k, k < 3 → parseFieldDescriptor (TX2 k).2.2.1 = some (tyX2 k) := by decide +kernel
abbrev cX2_init : ByteArray := prog_4_method_1_code
def yX2_init : MethodName := ⟨RX2, "<init>", "()V"⟩
abbrev cX2_keep : ByteArray := prog_4_method_2_code
def yX2_keep : MethodName := ⟨RX2, "keep", "(LShoutGroups$Library;)V"⟩
abbrev cX2_takeBack : ByteArray := prog_4_method_3_code
def yX2_takeBack : MethodName := ⟨RX2, "takeBack", "(LShoutGroups$Library;)Z"⟩
abbrev cX2_stateAt : ByteArray := prog_4_method_4_code
def yX2_stateAt : MethodName := ⟨RX2, "stateAt", "(I)LShoutGroups$Library;"⟩
def RX3 : String := "ShoutGroups$Library"
def TX3 : u_T := fun k => match k with
  | 0 => ("ShoutGroups$Library", "settings", "LShoutGroups$Row;", true)
  | 1 => ("ShoutGroups$Library", "values", "LShoutGroups$Row;", true)
  | 2 => ("ShoutGroups$Library", "cards", "LShoutGroups$Cards;", true)
  | 3 => ("ShoutGroups$Library", "shelves", "LShoutGroups$Shelves;", true)
  | 4 => ("ShoutGroups$Library", "account", "LShoutGroups$Account;", true)
  | 5 => ("ShoutGroups$Library", "totals", "LShoutGroups$Row;", true)
  | 6 => ("ShoutGroups$Library", "noteCalledBack", "LShoutGroups$Row;", true)
  | 7 => ("ShoutGroups$Library", "noteShouts", "LShoutGroups$Row;", true)
  | 8 => ("ShoutGroups$Library", "readerUses", "LShoutGroups$Row;", true)
  | 9 => ("ShoutGroups$Library", "readerQuietUses", "LShoutGroups$Row;", true)
  | 10 => ("ShoutGroups$Library", "readerCalledBack", "LShoutGroups$Row;", true)
  | _ => ("ShoutGroups$Library", "readerWasted", "LShoutGroups$Row;", true)
def tyX3 : Nat → FieldType := fun k => match k with
  | 0 => .object "ShoutGroups$Row"
  | 1 => .object "ShoutGroups$Row"
  | 2 => .object "ShoutGroups$Cards"
  | 3 => .object "ShoutGroups$Shelves"
  | 4 => .object "ShoutGroups$Account"
  | 5 => .object "ShoutGroups$Row"
  | 6 => .object "ShoutGroups$Row"
  | 7 => .object "ShoutGroups$Row"
  | 8 => .object "ShoutGroups$Row"
  | 9 => .object "ShoutGroups$Row"
  | 10 => .object "ShoutGroups$Row"
  | _ => .object "ShoutGroups$Row"
abbrev wsX30 : List Cond := u_ws RX3 TX3 12
theorem nmX3 : ∀ a, a < 12 → ∀ b, b < 12 → a ≠ b → (TX3 a).2.1 ≠ (TX3 b).2.1 := by decide +kernel
theorem tyX3_ok : ∀ k, k < 12 → parseFieldDescriptor (TX3 k).2.2.1 = some (tyX3 k) := by decide +kernel
abbrev cX3_init : ByteArray := prog_5_method_1_code
def yX3_init : MethodName := ⟨RX3, "<init>", "()V"⟩
abbrev cX3_copyFrom : ByteArray := prog_5_method_2_code
def yX3_copyFrom : MethodName := ⟨RX3, "copyFrom", "(LShoutGroups$Library;)V"⟩
abbrev cX3_errorOf : ByteArray := prog_5_method_3_code
def yX3_errorOf : MethodName := ⟨RX3, "errorOf", "(IIII)I"⟩
abbrev cX3_lend : ByteArray := prog_5_method_4_code
def yX3_lend : MethodName := ⟨RX3, "lend", "(II)I"⟩
abbrev cX3_rewrite : ByteArray := prog_5_method_5_code
def yX3_rewrite : MethodName := ⟨RX3, "rewrite", "(III)I"⟩
abbrev cX3_callIn : ByteArray := prog_5_method_6_code
def yX3_callIn : MethodName := ⟨RX3, "callIn", "(I)I"⟩
abbrev cX3_giveBack : ByteArray := prog_5_method_7_code
def yX3_giveBack : MethodName := ⟨RX3, "giveBack", "(II)I"⟩
abbrev cX3_callBack : ByteArray := prog_5_method_8_code
def yX3_callBack : MethodName := ⟨RX3, "callBack", "(II)I"⟩
abbrev cX3_takeAway : ByteArray := prog_5_method_9_code
def yX3_takeAway : MethodName := ⟨RX3, "takeAway", "(II)V"⟩
abbrev cX3_makeRoom : ByteArray := prog_5_method_10_code
def yX3_makeRoom : MethodName := ⟨RX3, "makeRoom", "(I)V"⟩
abbrev cX3_copiesInTheWay : ByteArray := prog_5_method_11_code
def yX3_copiesInTheWay : MethodName := ⟨RX3, "copiesInTheWay", "(I)I"⟩
abbrev cX3_noteUse : ByteArray := prog_5_method_12_code
def yX3_noteUse : MethodName := ⟨RX3, "noteUse", "(IZ)V"⟩
abbrev cX3_called : ByteArray := prog_5_method_13_code
def yX3_called : MethodName := ⟨RX3, "called", "(I)I"⟩
abbrev cX3_notesThatCall : ByteArray := prog_5_method_14_code
def yX3_notesThatCall : MethodName := ⟨RX3, "notesThatCall", "(I)I"⟩
abbrev cX3_valueToRead : ByteArray := prog_5_method_15_code
def yX3_valueToRead : MethodName := ⟨RX3, "valueToRead", "(I)I"⟩
abbrev cX3_messagesToRead : ByteArray := prog_5_method_16_code
def yX3_messagesToRead : MethodName := ⟨RX3, "messagesToRead", "(II)I"⟩
abbrev cX3_messagesToChange : ByteArray := prog_5_method_17_code
def yX3_messagesToChange : MethodName := ⟨RX3, "messagesToChange", "(II)I"⟩
abbrev cX3_wastedToChange : ByteArray := prog_5_method_18_code
def yX3_wastedToChange : MethodName := ⟨RX3, "wastedToChange", "(II)I"⟩
abbrev cX3_fewestWasted : ByteArray := prog_5_method_19_code
def yX3_fewestWasted : MethodName := ⟨RX3, "fewestWasted", "(I)I"⟩
abbrev cX3_messagesToMakeRoom : ByteArray := prog_5_method_20_code
def yX3_messagesToMakeRoom : MethodName := ⟨RX3, "messagesToMakeRoom", "(I)I"⟩
abbrev cX3_messagesOfAccount : ByteArray := prog_5_method_21_code
def yX3_messagesOfAccount : MethodName := ⟨RX3, "messagesOfAccount", "(LShoutGroups$Library;II)I"⟩
def RX4 : String := "ShoutGroups$Orders"
def TX4 : u_T := fun k => match k with
  | 0 => ("ShoutGroups$Orders", "pad", "LShoutGroups$Pad;", true)
  | 1 => ("ShoutGroups$Orders", "place", "I", false)
  | 2 => ("ShoutGroups$Orders", "number", "I", false)
  | 3 => ("ShoutGroups$Orders", "kind", "I", false)
  | 4 => ("ShoutGroups$Orders", "reader", "I", false)
  | 5 => ("ShoutGroups$Orders", "note", "I", false)
  | _ => ("ShoutGroups$Orders", "value", "I", false)
def tyX4 : Nat → FieldType := fun k => match k with
  | 0 => .object "ShoutGroups$Pad"
  | 1 => .int
  | 2 => .int
  | 3 => .int
  | 4 => .int
  | 5 => .int
  | _ => .int
abbrev wsX40 : List Cond := u_ws RX4 TX4 7
theorem nmX4 : ∀ a, a < 7 → ∀ b, b < 7 → a ≠ b → (TX4 a).2.1 ≠ (TX4 b).2.1 := by decide +kernel
theorem tyX4_ok : ∀ k, k < 7 → parseFieldDescriptor (TX4 k).2.2.1 = some (tyX4 k) := by decide +kernel
abbrev cX4_init : ByteArray := prog_6_method_1_code
def yX4_init : MethodName := ⟨RX4, "<init>", "(LShoutGroups$Pad;)V"⟩
abbrev cX4_findFault : ByteArray := prog_6_method_2_code
def yX4_findFault : MethodName := ⟨RX4, "findFault", "()I"⟩
abbrev cX4_takeNext : ByteArray := prog_6_method_3_code
def yX4_takeNext : MethodName := ⟨RX4, "takeNext", "()Z"⟩
abbrev cX4_takeKind : ByteArray := prog_6_method_4_code
def yX4_takeKind : MethodName := ⟨RX4, "takeKind", "()Z"⟩
abbrev cX4_takeReader : ByteArray := prog_6_method_5_code
def yX4_takeReader : MethodName := ⟨RX4, "takeReader", "()Z"⟩
abbrev cX4_takeNote : ByteArray := prog_6_method_6_code
def yX4_takeNote : MethodName := ⟨RX4, "takeNote", "()Z"⟩
abbrev cX4_takeValue : ByteArray := prog_6_method_7_code
def yX4_takeValue : MethodName := ⟨RX4, "takeValue", "()Z"⟩
abbrev cX4_takeNumber : ByteArray := prog_6_method_8_code
def yX4_takeNumber : MethodName := ⟨RX4, "takeNumber", "()Z"⟩
abbrev cX4_take : ByteArray := prog_6_method_9_code
def yX4_take : MethodName := ⟨RX4, "take", "(I)Z"⟩
abbrev cX4_isDigit : ByteArray := prog_6_method_10_code
def yX4_isDigit : MethodName := ⟨RX4, "isDigit", "(I)Z"⟩
abbrev cX4_kindOf : ByteArray := prog_6_method_11_code
def yX4_kindOf : MethodName := ⟨RX4, "kindOf", "(I)I"⟩
def RX5 : String := "ShoutGroups$Pad"
def TX5 : u_T := fun k => match k with
  | 0 => ("ShoutGroups$Pad", "codes", "LShoutGroups$Row;", true)
  | _ => ("ShoutGroups$Pad", "length", "I", false)
def tyX5 : Nat → FieldType := fun k => match k with
  | 0 => .object "ShoutGroups$Row"
  | _ => .int
abbrev wsX50 : List Cond := u_ws RX5 TX5 2
theorem nmX5 : ∀ a, a < 2 → ∀ b, b < 2 → a ≠ b → (TX5 a).2.1 ≠ (TX5 b).2.1 := by decide +kernel
theorem tyX5_ok : ∀ k, k < 2 → parseFieldDescriptor (TX5 k).2.2.1 = some (tyX5 k) := by decide +kernel
abbrev cX5_init : ByteArray := prog_7_method_1_code
def yX5_init : MethodName := ⟨RX5, "<init>", "()V"⟩
abbrev cX5_codeAt : ByteArray := prog_7_method_2_code
def yX5_codeAt : MethodName := ⟨RX5, "codeAt", "(I)I"⟩
abbrev cX5_append : ByteArray := prog_7_method_3_code
def yX5_append : MethodName := ⟨RX5, "append", "(I)V"⟩
def RX6 : String := "ShoutGroups$Row"
def TX6 : u_T := fun k => match k with
  | _ => ("ShoutGroups$Row", "cells", "[I", true)
def tyX6 : Nat → FieldType := fun k => match k with
  | _ => .array .int
abbrev wsX60 : List Cond := u_ws RX6 TX6 1
theorem nmX6 : ∀ a, a < 1 → ∀ b, b < 1 → a ≠ b → (TX6 a).2.1 ≠ (TX6 b).2.1 := by decide +kernel
theorem tyX6_ok : ∀ k, k < 1 → parseFieldDescriptor (TX6 k).2.2.1 = some (tyX6 k) := by decide +kernel
abbrev cX6_init : ByteArray := prog_8_method_1_code
def yX6_init : MethodName := ⟨RX6, "<init>", "(I)V"⟩
abbrev cX6_at : ByteArray := prog_8_method_2_code
def yX6_at : MethodName := ⟨RX6, "at", "(I)I"⟩
abbrev cX6_write : ByteArray := prog_8_method_3_code
def yX6_write : MethodName := ⟨RX6, "write", "(II)V"⟩
abbrev cX6_add : ByteArray := prog_8_method_4_code
def yX6_add : MethodName := ⟨RX6, "add", "(II)V"⟩
abbrev cX6_clear : ByteArray := prog_8_method_5_code
def yX6_clear : MethodName := ⟨RX6, "clear", "()V"⟩
abbrev cX6_copyFrom : ByteArray := prog_8_method_6_code
def yX6_copyFrom : MethodName := ⟨RX6, "copyFrom", "(LShoutGroups$Row;)V"⟩
def RX7 : String := "ShoutGroups$Shelves"
def TX7 : u_T := fun k => match k with
  | 0 => ("ShoutGroups$Shelves", "lengths", "LShoutGroups$Row;", true)
  | 1 => ("ShoutGroups$Shelves", "notes", "LShoutGroups$Row;", true)
  | 2 => ("ShoutGroups$Shelves", "values", "LShoutGroups$Row;", true)
  | 3 => ("ShoutGroups$Shelves", "changed", "LShoutGroups$Row;", true)
  | _ => ("ShoutGroups$Shelves", "holders", "LShoutGroups$Row;", true)
def tyX7 : Nat → FieldType := fun k => match k with
  | 0 => .object "ShoutGroups$Row"
  | 1 => .object "ShoutGroups$Row"
  | 2 => .object "ShoutGroups$Row"
  | 3 => .object "ShoutGroups$Row"
  | _ => .object "ShoutGroups$Row"
abbrev wsX70 : List Cond := u_ws RX7 TX7 5
theorem nmX7 : ∀ a, a < 5 → ∀ b, b < 5 → a ≠ b → (TX7 a).2.1 ≠ (TX7 b).2.1 := by decide +kernel
theorem tyX7_ok : ∀ k, k < 5 → parseFieldDescriptor (TX7 k).2.2.1 = some (tyX7 k) := by decide +kernel
abbrev cX7_init : ByteArray := prog_9_method_1_code
def yX7_init : MethodName := ⟨RX7, "<init>", "()V"⟩
abbrev cX7_noteAt : ByteArray := prog_9_method_2_code
def yX7_noteAt : MethodName := ⟨RX7, "noteAt", "(II)I"⟩
abbrev cX7_valueAt : ByteArray := prog_9_method_3_code
def yX7_valueAt : MethodName := ⟨RX7, "valueAt", "(II)I"⟩
abbrev cX7_isChangedAt : ByteArray := prog_9_method_4_code
def yX7_isChangedAt : MethodName := ⟨RX7, "isChangedAt", "(II)Z"⟩
abbrev cX7_holds : ByteArray := prog_9_method_5_code
def yX7_holds : MethodName := ⟨RX7, "holds", "(II)Z"⟩
abbrev cX7_placeOf : ByteArray := prog_9_method_6_code
def yX7_placeOf : MethodName := ⟨RX7, "placeOf", "(II)I"⟩
abbrev cX7_lay : ByteArray := prog_9_method_7_code
def yX7_lay : MethodName := ⟨RX7, "lay", "(IIIZ)V"⟩
abbrev cX7_remove : ByteArray := prog_9_method_8_code
def yX7_remove : MethodName := ⟨RX7, "remove", "(II)V"⟩
abbrev cX7_howMany : ByteArray := prog_9_method_9_code
def yX7_howMany : MethodName := ⟨RX7, "howMany", "()I"⟩
abbrev cX7_howManyChanged : ByteArray := prog_9_method_10_code
def yX7_howManyChanged : MethodName := ⟨RX7, "howManyChanged", "()I"⟩
abbrev cX7_clear : ByteArray := prog_9_method_11_code
def yX7_clear : MethodName := ⟨RX7, "clear", "()V"⟩
abbrev cX7_copyFrom : ByteArray := prog_9_method_12_code
def yX7_copyFrom : MethodName := ⟨RX7, "copyFrom", "(LShoutGroups$Shelves;)V"⟩
def RX8 : String := "ShoutGroups"
def TX8 : u_T := fun k => match k with
  | 0 => ("ShoutGroups", "library", "LShoutGroups$Library;", true)
  | 1 => ("ShoutGroups", "trial", "LShoutGroups$Library;", true)
  | 2 => ("ShoutGroups", "history", "LShoutGroups$History;", true)
  | 3 => ("ShoutGroups", "slots", "[LShoutGroups$Library;", true)
  | 4 => ("ShoutGroups", "pad", "LShoutGroups$Pad;", true)
  | _ => ("ShoutGroups", "orders", "LShoutGroups$Orders;", true)
def tyX8 : Nat → FieldType := fun k => match k with
  | 0 => .object "ShoutGroups$Library"
  | 1 => .object "ShoutGroups$Library"
  | 2 => .object "ShoutGroups$History"
  | 3 => .array (.object "ShoutGroups$Library")
  | 4 => .object "ShoutGroups$Pad"
  | _ => .object "ShoutGroups$Orders"
abbrev wsX80 : List Cond := u_ws RX8 TX8 6
theorem nmX8 : ∀ a, a < 6 → ∀ b, b < 6 → a ≠ b → (TX8 a).2.1 ≠ (TX8 b).2.1 := by decide +kernel
theorem tyX8_ok : ∀ k, k < 6 → parseFieldDescriptor (TX8 k).2.2.1 = some (tyX8 k) := by decide +kernel
abbrev cX8_init : ByteArray := prog_1_method_1_code
def yX8_init : MethodName := ⟨RX8, "<init>", "()V"⟩
abbrev cX8_set : ByteArray := prog_1_method_2_code
def yX8_set : MethodName := ⟨RX8, "set", "(II)I"⟩
abbrev cX8_read : ByteArray := prog_1_method_3_code
def yX8_read : MethodName := ⟨RX8, "read", "(II)I"⟩
abbrev cX8_change : ByteArray := prog_1_method_4_code
def yX8_change : MethodName := ⟨RX8, "change", "(III)I"⟩
abbrev cX8_putBack : ByteArray := prog_1_method_5_code
def yX8_putBack : MethodName := ⟨RX8, "putBack", "(II)I"⟩
abbrev cX8_recall : ByteArray := prog_1_method_6_code
def yX8_recall : MethodName := ⟨RX8, "recall", "(I)I"⟩
abbrev cX8_happen : ByteArray := prog_1_method_7_code
def yX8_happen : MethodName := ⟨RX8, "happen", "(IIIIZ)I"⟩
abbrev cX8_ofNote : ByteArray := prog_1_method_8_code
def yX8_ofNote : MethodName := ⟨RX8, "ofNote", "(II)I"⟩
abbrev cX8_onShelf : ByteArray := prog_1_method_9_code
def yX8_onShelf : MethodName := ⟨RX8, "onShelf", "(III)I"⟩
abbrev cX8_ofReader : ByteArray := prog_1_method_10_code
def yX8_ofReader : MethodName := ⟨RX8, "ofReader", "(II)I"⟩
abbrev cX8_count : ByteArray := prog_1_method_11_code
def yX8_count : MethodName := ⟨RX8, "count", "(I)I"⟩
abbrev cX8_costOfReading : ByteArray := prog_1_method_12_code
def yX8_costOfReading : MethodName := ⟨RX8, "costOfReading", "(II)I"⟩
abbrev cX8_costOfChange : ByteArray := prog_1_method_13_code
def yX8_costOfChange : MethodName := ⟨RX8, "costOfChange", "(III)I"⟩
abbrev cX8_cheapest : ByteArray := prog_1_method_14_code
def yX8_cheapest : MethodName := ⟨RX8, "cheapest", "(I)I"⟩
abbrev cX8_loudest : ByteArray := prog_1_method_15_code
def yX8_loudest : MethodName := ⟨RX8, "loudest", "(I)I"⟩
abbrev cX8_accountWith : ByteArray := prog_1_method_16_code
def yX8_accountWith : MethodName := ⟨RX8, "accountWith", "(II)I"⟩
abbrev cX8_best : ByteArray := prog_1_method_17_code
def yX8_best : MethodName := ⟨RX8, "best", "(I)I"⟩
abbrev cX8_account : ByteArray := prog_1_method_18_code
def yX8_account : MethodName := ⟨RX8, "account", "()I"⟩
abbrev cX8_put : ByteArray := prog_1_method_19_code
def yX8_put : MethodName := ⟨RX8, "put", "(J)I"⟩
abbrev cX8_wipe : ByteArray := prog_1_method_20_code
def yX8_wipe : MethodName := ⟨RX8, "wipe", "()I"⟩
abbrev cX8_fault : ByteArray := prog_1_method_21_code
def yX8_fault : MethodName := ⟨RX8, "fault", "()I"⟩
abbrev cX8_carryOut : ByteArray := prog_1_method_22_code
def yX8_carryOut : MethodName := ⟨RX8, "carryOut", "()I"⟩
abbrev cX8_howManyCharacters : ByteArray := prog_1_method_23_code
def yX8_howManyCharacters : MethodName := ⟨RX8, "howManyCharacters", "(J)I"⟩
abbrev cX8_codeAt : ByteArray := prog_1_method_24_code
def yX8_codeAt : MethodName := ⟨RX8, "codeAt", "(JI)I"⟩
abbrev cX8_undo : ByteArray := prog_1_method_25_code
def yX8_undo : MethodName := ⟨RX8, "undo", "()I"⟩
abbrev cX8_save : ByteArray := prog_1_method_26_code
def yX8_save : MethodName := ⟨RX8, "save", "(I)I"⟩
abbrev cX8_restore : ByteArray := prog_1_method_27_code
def yX8_restore : MethodName := ⟨RX8, "restore", "(I)I"⟩
abbrev cX8_isReader : ByteArray := prog_1_method_28_code
def yX8_isReader : MethodName := ⟨RX8, "isReader", "(I)Z"⟩
abbrev cX8_isNote : ByteArray := prog_1_method_29_code
def yX8_isNote : MethodName := ⟨RX8, "isNote", "(I)Z"⟩
abbrev cX8_isValueOf : ByteArray := prog_1_method_30_code
def yX8_isValueOf : MethodName := ⟨RX8, "isValueOf", "(II)Z"⟩
abbrev cX8_groupOf : ByteArray := prog_1_method_31_code
def yX8_groupOf : MethodName := ⟨RX8, "groupOf", "(II)I"⟩
abbrev cX8_only : ByteArray := prog_1_method_32_code
def yX8_only : MethodName := ⟨RX8, "only", "(I)I"⟩
abbrev cX8_isIn : ByteArray := prog_1_method_33_code
def yX8_isIn : MethodName := ⟨RX8, "isIn", "(II)Z"⟩
def RX9 : String := "ShoutGroupsModel"
def TX9 : u_T := fun k => match k with
  | 0 => ("ShoutGroupsModel", "at", "[I", true)
  | 1 => ("ShoutGroupsModel", "past", "[I", true)
  | 2 => ("ShoutGroupsModel", "pastFirst", "I", false)
  | 3 => ("ShoutGroupsModel", "pastMany", "I", false)
  | 4 => ("ShoutGroupsModel", "slots", "[I", true)
  | 5 => ("ShoutGroupsModel", "isSaved", "[Z", true)
  | 6 => ("ShoutGroupsModel", "aside", "[I", true)
  | 7 => ("ShoutGroupsModel", "pad", "[I", true)
  | 8 => ("ShoutGroupsModel", "padMany", "I", false)
  | 9 => ("ShoutGroupsModel", "spot", "I", false)
  | 10 => ("ShoutGroupsModel", "isWrong", "Z", false)
  | 11 => ("ShoutGroupsModel", "orders", "I", false)
  | 12 => ("ShoutGroupsModel", "sort", "[I", true)
  | _ => ("ShoutGroupsModel", "numbers", "[I", true)
def tyX9 : Nat → FieldType := fun k => match k with
  | 0 => .array .int
  | 1 => .array .int
  | 2 => .int
  | 3 => .int
  | 4 => .array .int
  | 5 => .array .boolean
  | 6 => .array .int
  | 7 => .array .int
  | 8 => .int
  | 9 => .int
  | 10 => .boolean
  | 11 => .int
  | 12 => .array .int
  | _ => .array .int
abbrev wsX90 : List Cond := u_ws RX9 TX9 14
theorem nmX9 : ∀ a, a < 14 → ∀ b, b < 14 → a ≠ b → (TX9 a).2.1 ≠ (TX9 b).2.1 := by decide +kernel
theorem tyX9_ok : ∀ k, k < 14 → parseFieldDescriptor (TX9 k).2.2.1 = some (tyX9 k) := by decide +kernel
abbrev cX9_init : ByteArray := prog_11_method_1_code
def yX9_init : MethodName := ⟨RX9, "<init>", "()V"⟩
abbrev cX9_in : ByteArray := prog_11_method_3_code
def yX9_in : MethodName := ⟨RX9, "in", "(III)Z"⟩
abbrev cX9_has : ByteArray := prog_11_method_4_code
def yX9_has : MethodName := ⟨RX9, "has", "(II)Z"⟩
abbrev cX9_many : ByteArray := prog_11_method_5_code
def yX9_many : MethodName := ⟨RX9, "many", "(I)I"⟩
abbrev cX9_isReader : ByteArray := prog_11_method_6_code
def yX9_isReader : MethodName := ⟨RX9, "isReader", "(I)Z"⟩
abbrev cX9_isNote : ByteArray := prog_11_method_7_code
def yX9_isNote : MethodName := ⟨RX9, "isNote", "(I)Z"⟩
abbrev cX9_ofN : ByteArray := prog_11_method_8_code
def yX9_ofN : MethodName := ⟨RX9, "ofN", "(II)I"⟩
abbrev cX9_layN : ByteArray := prog_11_method_9_code
def yX9_layN : MethodName := ⟨RX9, "layN", "(III)V"⟩
abbrev cX9_ofR : ByteArray := prog_11_method_10_code
def yX9_ofR : MethodName := ⟨RX9, "ofR", "(II)I"⟩
abbrev cX9_moreR : ByteArray := prog_11_method_11_code
def yX9_moreR : MethodName := ⟨RX9, "moreR", "(III)V"⟩
abbrev cX9_ofC : ByteArray := prog_11_method_12_code
def yX9_ofC : MethodName := ⟨RX9, "ofC", "(III)I"⟩
abbrev cX9_layC : ByteArray := prog_11_method_13_code
def yX9_layC : MethodName := ⟨RX9, "layC", "(IIII)V"⟩
abbrev cX9_keep : ByteArray := prog_11_method_14_code
def yX9_keep : MethodName := ⟨RX9, "keep", "()V"⟩
abbrev cX9_keepIf : ByteArray := prog_11_method_15_code
def yX9_keepIf : MethodName := ⟨RX9, "keepIf", "(Z)V"⟩
abbrev cX9_layAside : ByteArray := prog_11_method_16_code
def yX9_layAside : MethodName := ⟨RX9, "layAside", "()V"⟩
abbrev cX9_layBack : ByteArray := prog_11_method_17_code
def yX9_layBack : MethodName := ⟨RX9, "layBack", "()V"⟩
abbrev cX9_placeOf : ByteArray := prog_11_method_18_code
def yX9_placeOf : MethodName := ⟨RX9, "placeOf", "(II)I"⟩
abbrev cX9_takeOff : ByteArray := prog_11_method_19_code
def yX9_takeOff : MethodName := ⟨RX9, "takeOff", "(II)V"⟩
abbrev cX9_layOn : ByteArray := prog_11_method_20_code
def yX9_layOn : MethodName := ⟨RX9, "layOn", "(IIII)V"⟩
abbrev cX9_use : ByteArray := prog_11_method_21_code
def yX9_use : MethodName := ⟨RX9, "use", "(II)V"⟩
abbrev cX9_giveBack : ByteArray := prog_11_method_22_code
def yX9_giveBack : MethodName := ⟨RX9, "giveBack", "(II)V"⟩
abbrev cX9_group : ByteArray := prog_11_method_23_code
def yX9_group : MethodName := ⟨RX9, "group", "(I)I"⟩
abbrev cX9_called : ByteArray := prog_11_method_24_code
def yX9_called : MethodName := ⟨RX9, "called", "(I)I"⟩
abbrev cX9_layCard : ByteArray := prog_11_method_25_code
def yX9_layCard : MethodName := ⟨RX9, "layCard", "(III)V"⟩
abbrev cX9_groupsOf : ByteArray := prog_11_method_26_code
def yX9_groupsOf : MethodName := ⟨RX9, "groupsOf", "(I)I"⟩
abbrev cX9_writeOn : ByteArray := prog_11_method_27_code
def yX9_writeOn : MethodName := ⟨RX9, "writeOn", "(II)V"⟩
abbrev cX9_strike : ByteArray := prog_11_method_28_code
def yX9_strike : MethodName := ⟨RX9, "strike", "(II)V"⟩
abbrev cX9_callBack : ByteArray := prog_11_method_29_code
def yX9_callBack : MethodName := ⟨RX9, "callBack", "(II)V"⟩
abbrev cX9_callBackBut : ByteArray := prog_11_method_30_code
def yX9_callBackBut : MethodName := ⟨RX9, "callBackBut", "(II)V"⟩
abbrev cX9_returned : ByteArray := prog_11_method_31_code
def yX9_returned : MethodName := ⟨RX9, "returned", "(II)I"⟩
abbrev cX9_makeRoom : ByteArray := prog_11_method_32_code
def yX9_makeRoom : MethodName := ⟨RX9, "makeRoom", "(I)V"⟩
abbrev cX9_ask : ByteArray := prog_11_method_33_code
def yX9_ask : MethodName := ⟨RX9, "ask", "(II)V"⟩
abbrev cX9_reads : ByteArray := prog_11_method_34_code
def yX9_reads : MethodName := ⟨RX9, "reads", "(II)I"⟩
abbrev cX9_changes : ByteArray := prog_11_method_35_code
def yX9_changes : MethodName := ⟨RX9, "changes", "(III)I"⟩
abbrev cX9_enter : ByteArray := prog_11_method_36_code
def yX9_enter : MethodName := ⟨RX9, "enter", "(III)V"⟩
abbrev cX9_tryRead : ByteArray := prog_11_method_37_code
def yX9_tryRead : MethodName := ⟨RX9, "tryRead", "(IIZ)I"⟩
abbrev cX9_read : ByteArray := prog_11_method_38_code
def yX9_read : MethodName := ⟨RX9, "read", "(II)I"⟩
abbrev cX9_tryChange : ByteArray := prog_11_method_39_code
def yX9_tryChange : MethodName := ⟨RX9, "tryChange", "(IIIZ)I"⟩
abbrev cX9_change : ByteArray := prog_11_method_40_code
def yX9_change : MethodName := ⟨RX9, "change", "(III)I"⟩
abbrev cX9_tryPutBack : ByteArray := prog_11_method_41_code
def yX9_tryPutBack : MethodName := ⟨RX9, "tryPutBack", "(IIZ)I"⟩
abbrev cX9_putBack : ByteArray := prog_11_method_42_code
def yX9_putBack : MethodName := ⟨RX9, "putBack", "(II)I"⟩
abbrev cX9_tryRecall : ByteArray := prog_11_method_43_code
def yX9_tryRecall : MethodName := ⟨RX9, "tryRecall", "(IZ)I"⟩
abbrev cX9_recall : ByteArray := prog_11_method_44_code
def yX9_recall : MethodName := ⟨RX9, "recall", "(I)I"⟩
abbrev cX9_cardsThat : ByteArray := prog_11_method_45_code
def yX9_cardsThat : MethodName := ⟨RX9, "cardsThat", "(II)I"⟩
abbrev cX9_set : ByteArray := prog_11_method_46_code
def yX9_set : MethodName := ⟨RX9, "set", "(II)I"⟩
abbrev cX9_holders : ByteArray := prog_11_method_47_code
def yX9_holders : MethodName := ⟨RX9, "holders", "(I)I"⟩
abbrev cX9_valueNow : ByteArray := prog_11_method_48_code
def yX9_valueNow : MethodName := ⟨RX9, "valueNow", "(I)I"⟩
abbrev cX9_ofNote : ByteArray := prog_11_method_49_code
def yX9_ofNote : MethodName := ⟨RX9, "ofNote", "(II)I"⟩
abbrev cX9_onShelf : ByteArray := prog_11_method_50_code
def yX9_onShelf : MethodName := ⟨RX9, "onShelf", "(III)I"⟩
abbrev cX9_callers : ByteArray := prog_11_method_51_code
def yX9_callers : MethodName := ⟨RX9, "callers", "(I)I"⟩
abbrev cX9_ofReader : ByteArray := prog_11_method_52_code
def yX9_ofReader : MethodName := ⟨RX9, "ofReader", "(II)I"⟩
abbrev cX9_copies : ByteArray := prog_11_method_53_code
def yX9_copies : MethodName := ⟨RX9, "copies", "(Z)I"⟩
abbrev cX9_count : ByteArray := prog_11_method_54_code
def yX9_count : MethodName := ⟨RX9, "count", "(I)I"⟩
abbrev cX9_costOfReading : ByteArray := prog_11_method_55_code
def yX9_costOfReading : MethodName := ⟨RX9, "costOfReading", "(II)I"⟩
abbrev cX9_cost : ByteArray := prog_11_method_56_code
def yX9_cost : MethodName := ⟨RX9, "cost", "(III)I"⟩
abbrev cX9_costOfChange : ByteArray := prog_11_method_57_code
def yX9_costOfChange : MethodName := ⟨RX9, "costOfChange", "(III)I"⟩
abbrev cX9_cheapest : ByteArray := prog_11_method_58_code
def yX9_cheapest : MethodName := ⟨RX9, "cheapest", "(I)I"⟩
abbrev cX9_fewestWasted : ByteArray := prog_11_method_59_code
def yX9_fewestWasted : MethodName := ⟨RX9, "fewestWasted", "(I)I"⟩
abbrev cX9_loudest : ByteArray := prog_11_method_60_code
def yX9_loudest : MethodName := ⟨RX9, "loudest", "(I)I"⟩
abbrev cX9_messagesWith : ByteArray := prog_11_method_61_code
def yX9_messagesWith : MethodName := ⟨RX9, "messagesWith", "(II)I"⟩
abbrev cX9_accountWith : ByteArray := prog_11_method_62_code
def yX9_accountWith : MethodName := ⟨RX9, "accountWith", "(II)I"⟩
abbrev cX9_best : ByteArray := prog_11_method_63_code
def yX9_best : MethodName := ⟨RX9, "best", "(I)I"⟩
abbrev cX9_account : ByteArray := prog_11_method_64_code
def yX9_account : MethodName := ⟨RX9, "account", "()I"⟩
abbrev cX9_put : ByteArray := prog_11_method_65_code
def yX9_put : MethodName := ⟨RX9, "put", "(J)I"⟩
abbrev cX9_wipe : ByteArray := prog_11_method_66_code
def yX9_wipe : MethodName := ⟨RX9, "wipe", "()I"⟩
abbrev cX9_next : ByteArray := prog_11_method_67_code
def yX9_next : MethodName := ⟨RX9, "next", "()I"⟩
abbrev cX9_takeSign : ByteArray := prog_11_method_68_code
def yX9_takeSign : MethodName := ⟨RX9, "takeSign", "(I)V"⟩
abbrev cX9_takeNumber : ByteArray := prog_11_method_69_code
def yX9_takeNumber : MethodName := ⟨RX9, "takeNumber", "(I)V"⟩
abbrev cX9_takeOrder : ByteArray := prog_11_method_70_code
def yX9_takeOrder : MethodName := ⟨RX9, "takeOrder", "()V"⟩
abbrev cX9_fault : ByteArray := prog_11_method_71_code
def yX9_fault : MethodName := ⟨RX9, "fault", "()I"⟩
abbrev cX9_carry : ByteArray := prog_11_method_72_code
def yX9_carry : MethodName := ⟨RX9, "carry", "(I)I"⟩
abbrev cX9_carryOut : ByteArray := prog_11_method_73_code
def yX9_carryOut : MethodName := ⟨RX9, "carryOut", "()I"⟩
abbrev cX9_undo : ByteArray := prog_11_method_74_code
def yX9_undo : MethodName := ⟨RX9, "undo", "()I"⟩
abbrev cX9_save : ByteArray := prog_11_method_75_code
def yX9_save : MethodName := ⟨RX9, "save", "(I)I"⟩
abbrev cX9_restore : ByteArray := prog_11_method_76_code
def yX9_restore : MethodName := ⟨RX9, "restore", "(I)I"⟩
def RJ6 : String := "java/lang/Integer"
def TJ6 : u_T := fun k => match k with
  | _ => ("", "", "", false)
def tyJ6 : Nat → FieldType := fun k => match k with
  | _ => .int
abbrev wsJ60 : List Cond := u_ws RJ6 TJ6 0
theorem nmJ6 : ∀ a, a < 0 → ∀ b, b < 0 → a ≠ b → (TJ6 a).2.1 ≠ (TJ6 b).2.1 := by decide +kernel
theorem tyJ6_ok : ∀ k, k < 0 → parseFieldDescriptor (TJ6 k).2.2.1 = some (tyJ6 k) := by decide +kernel
abbrev cJ6_bitCount_0f7a4 : ByteArray := prog_12_method_49_code
def yJ6_bitCount_0f7a4 : MethodName := ⟨RJ6, "bitCount", "(I)I"⟩
def RJ9 : String := "java/lang/Math"
def TJ9 : u_T := fun k => match k with
  | _ => ("", "", "", false)
def tyJ9 : Nat → FieldType := fun k => match k with
  | _ => .int
abbrev wsJ90 : List Cond := u_ws RJ9 TJ9 0
theorem nmJ9 : ∀ a, a < 0 → ∀ b, b < 0 → a ≠ b → (TJ9 a).2.1 ≠ (TJ9 b).2.1 := by decide +kernel
theorem tyJ9_ok : ∀ k, k < 0 → parseFieldDescriptor (TJ9 k).2.2.1 = some (tyJ9 k) := by decide +kernel
abbrev cJ9_max_7cf53 : ByteArray := prog_13_method_65_code
def yJ9_max_7cf53 : MethodName := ⟨RJ9, "max", "(II)I"⟩
abbrev cJ9_min_7cf53 : ByteArray := prog_13_method_69_code
def yJ9_min_7cf53 : MethodName := ⟨RJ9, "min", "(II)I"⟩
def RJ10 : String := "java/lang/System"
def TJ10 : u_T := fun k => match k with
  | _ => ("", "", "", false)
def tyJ10 : Nat → FieldType := fun k => match k with
  | _ => .int
abbrev wsJ100 : List Cond := u_ws RJ10 TJ10 0
theorem nmJ10 : ∀ a, a < 0 → ∀ b, b < 0 → a ≠ b → (TJ10 a).2.1 ≠ (TJ10 b).2.1 := by decide +kernel
theorem tyJ10_ok : ∀ k, k < 0 → parseFieldDescriptor (TJ10 k).2.2.1 = some (tyJ10 k) := by decide +kernel
def RJ7 : String := "java/util/Arrays"
def TJ7 : u_T := fun k => match k with
  | _ => ("", "", "", false)
def tyJ7 : Nat → FieldType := fun k => match k with
  | _ => .int
abbrev wsJ70 : List Cond := u_ws RJ7 TJ7 0
theorem nmJ7 : ∀ a, a < 0 → ∀ b, b < 0 → a ≠ b → (TJ7 a).2.1 ≠ (TJ7 b).2.1 := by decide +kernel
theorem tyJ7_ok : ∀ k, k < 0 → parseFieldDescriptor (TJ7 k).2.2.1 = some (tyJ7 k) := by decide +kernel
abbrev cJ7_fill_53178 : ByteArray := prog_15_method_103_code
def yJ7_fill_53178 : MethodName := ⟨RJ7, "fill", "([II)V"⟩
def RL : String := "ShoutGroupsLaw"
abbrev cL_law : ByteArray := code
def yL_law : MethodName := ⟨RL, "law", "([I)Z"⟩
abbrev vwCl : List vw_C := [(RX0, TX0, 5), (RX1, TX1, 2), (RX2, TX2, 3), (RX3, TX3, 12), (RX4, TX4, 7), (RX5, TX5, 2), (RX6, TX6, 1), (RX7, TX7, 5), (RX8, TX8, 6), (RX9, TX9, 14)]
end
section
/-- the tables' words that stay true -/
def wsL_law : List Cond := lw_tbl.filter goodWord
theorem wsL_in : ∀ w ∈ wsL_law, w ∈ lw_tbl := fun w h => (List.mem_filter.mp h).1
theorem wsL_good : ∀ w ∈ wsL_law, (w.onTables && w.keeps) = true ∨ ∃ ty, w = .arrayClass ty := fun w h => good_of_word (List.mem_filter.mp h).2
theorem tb_0 {w : Cond} (i : Nat) (h : tables_1_1[i]? = some w) (hg : goodWord w = true) : w ∈ wsL_law := List.mem_filter.mpr ⟨List.mem_append_right _ ((fun h => List.mem_append_left _ h) (List.mem_of_getElem? h)), hg⟩
theorem tb_1 {w : Cond} (i : Nat) (h : tables_1_2[i]? = some w) (hg : goodWord w = true) : w ∈ wsL_law := List.mem_filter.mpr ⟨List.mem_append_right _ ((fun h => List.mem_append_right _ (List.mem_append_left _ h)) (List.mem_of_getElem? h)), hg⟩
theorem tb_2 {w : Cond} (i : Nat) (h : tables_1_3[i]? = some w) (hg : goodWord w = true) : w ∈ wsL_law := List.mem_filter.mpr ⟨List.mem_append_right _ ((fun h => List.mem_append_right _ (List.mem_append_right _ (List.mem_append_left _ h))) (List.mem_of_getElem? h)), hg⟩
theorem tb_3 {w : Cond} (i : Nat) (h : tables_1_4[i]? = some w) (hg : goodWord w = true) : w ∈ wsL_law := List.mem_filter.mpr ⟨List.mem_append_right _ ((fun h => List.mem_append_right _ (List.mem_append_right _ (List.mem_append_right _ (List.mem_append_left _ h)))) (List.mem_of_getElem? h)), hg⟩
theorem tb_4 {w : Cond} (i : Nat) (h : tables_1_5[i]? = some w) (hg : goodWord w = true) : w ∈ wsL_law := List.mem_filter.mpr ⟨List.mem_append_right _ ((fun h => List.mem_append_right _ (List.mem_append_right _ (List.mem_append_right _ (List.mem_append_right _ (h))))) (List.mem_of_getElem? h)), hg⟩
theorem tp_1 {q : MethodName × Nat} (i : Nat) (h : lw_privs_1[i]? = some q) : Cond.selects q.1.cls q.1 q.1 ∈ wsL_law := List.mem_filter.mpr ⟨List.mem_append_left _ (List.mem_map.mpr ⟨q, (fun h => List.mem_append_left _ h) (List.mem_of_getElem? h), rfl⟩), rfl⟩
theorem tp_2 {q : MethodName × Nat} (i : Nat) (h : lw_privs_2[i]? = some q) : Cond.selects q.1.cls q.1 q.1 ∈ wsL_law := List.mem_filter.mpr ⟨List.mem_append_left _ (List.mem_map.mpr ⟨q, (fun h => List.mem_append_right _ (List.mem_append_left _ h)) (List.mem_of_getElem? h), rfl⟩), rfl⟩
theorem tp_3 {q : MethodName × Nat} (i : Nat) (h : lw_privs_3[i]? = some q) : Cond.selects q.1.cls q.1 q.1 ∈ wsL_law := List.mem_filter.mpr ⟨List.mem_append_left _ (List.mem_map.mpr ⟨q, (fun h => List.mem_append_right _ (List.mem_append_right _ (List.mem_append_left _ h))) (List.mem_of_getElem? h), rfl⟩), rfl⟩
theorem tp_4 {q : MethodName × Nat} (i : Nat) (h : lw_privs_4[i]? = some q) : Cond.selects q.1.cls q.1 q.1 ∈ wsL_law := List.mem_filter.mpr ⟨List.mem_append_left _ (List.mem_map.mpr ⟨q, (fun h => List.mem_append_right _ (List.mem_append_right _ (List.mem_append_right _ (h)))) (List.mem_of_getElem? h), rfl⟩), rfl⟩
theorem clL_7 : Cond.classLink RL 7 RX8 ∈ wsL_law := tb_0 15 rfl rfl
theorem ins_X8 : Cond.instantiable RX8 6 ∈ wsL_law := tb_0 16 rfl rfl
theorem ini_X8 : Cond.initialized RX8 ∈ wsL_law := tb_0 1 rfl rfl
theorem clL_10 : Cond.classLink RL 10 RX9 ∈ wsL_law := tb_2 211 rfl rfl
theorem ins_X9 : Cond.instantiable RX9 14 ∈ wsL_law := tb_2 212 rfl rfl
theorem ini_X9 : Cond.initialized RX9 ∈ wsL_law := tb_0 10 rfl rfl
theorem klL_81 : Cond.constantLong RL 81 (4294967295) ∈ wsL_law := tb_4 74 rfl rfl
theorem mlL_9 : Cond.methodLink RL 9 yX8_init ∈ wsL_law := tb_0 17 rfl rfl
theorem im_X8_init : Cond.instanceMethod yX8_init ∈ wsL_law := tb_0 18 rfl rfl
theorem co_X8_init : Cond.code yX8_init cX8_init 1 none ∈ wsL_law := tb_0 19 rfl rfl
theorem mlX8_1 : Cond.methodLink RX8 1 objectInit ∈ wsL_law := tb_0 20 rfl rfl
theorem im_bjectInit : Cond.instanceMethod objectInit ∈ wsL_law := tb_0 21 rfl rfl
theorem co_bjectInit : Cond.code objectInit ⟨#[0xb1]⟩ 1 none ∈ wsL_law := tb_0 22 rfl rfl
theorem clX8_7 : Cond.classLink RX8 7 RX3 ∈ wsL_law := tb_0 23 rfl rfl
theorem ins_X3 : Cond.instantiable RX3 12 ∈ wsL_law := tb_0 24 rfl rfl
theorem ini_X3 : Cond.initialized RX3 ∈ wsL_law := tb_0 2 rfl rfl
theorem flX8_10 : Cond.fieldLink RX8 10 "ShoutGroups" "library" "LShoutGroups$Library;" ∈ wsL_law := tb_1 0 rfl rfl
theorem flX8_16 : Cond.fieldLink RX8 16 "ShoutGroups" "trial" "LShoutGroups$Library;" ∈ wsL_law := tb_1 1 rfl rfl
theorem clX8_19 : Cond.classLink RX8 19 RX2 ∈ wsL_law := tb_0 170 rfl rfl
theorem ins_X2 : Cond.instantiable RX2 3 ∈ wsL_law := tb_0 171 rfl rfl
theorem ini_X2 : Cond.initialized RX2 ∈ wsL_law := tb_0 7 rfl rfl
theorem flX8_22 : Cond.fieldLink RX8 22 "ShoutGroups" "history" "LShoutGroups$History;" ∈ wsL_law := tb_1 2 rfl rfl
theorem flX8_26 : Cond.fieldLink RX8 26 "ShoutGroups" "slots" "[LShoutGroups$Library;" ∈ wsL_law := tb_1 3 rfl rfl
theorem clX8_30 : Cond.classLink RX8 30 RX5 ∈ wsL_law := tb_0 190 rfl rfl
theorem ins_X5 : Cond.instantiable RX5 2 ∈ wsL_law := tb_0 191 rfl rfl
theorem ini_X5 : Cond.initialized RX5 ∈ wsL_law := tb_0 8 rfl rfl
theorem flX8_33 : Cond.fieldLink RX8 33 "ShoutGroups" "pad" "LShoutGroups$Pad;" ∈ wsL_law := tb_1 4 rfl rfl
theorem clX8_37 : Cond.classLink RX8 37 RX4 ∈ wsL_law := tb_0 207 rfl rfl
theorem ins_X4 : Cond.instantiable RX4 7 ∈ wsL_law := tb_0 208 rfl rfl
theorem ini_X4 : Cond.initialized RX4 ∈ wsL_law := tb_0 9 rfl rfl
theorem flX8_42 : Cond.fieldLink RX8 42 "ShoutGroups" "orders" "LShoutGroups$Orders;" ∈ wsL_law := tb_1 5 rfl rfl
theorem mlX8_9 : Cond.methodLink RX8 9 yX3_init ∈ wsL_law := tb_0 25 rfl rfl
theorem im_X3_init : Cond.instanceMethod yX3_init ∈ wsL_law := tb_0 26 rfl rfl
theorem co_X3_init : Cond.code yX3_init cX3_init 2 none ∈ wsL_law := tb_0 27 rfl rfl
theorem mlX3_3 : Cond.methodLink RX3 3 objectInit ∈ wsL_law := tb_0 28 rfl rfl
theorem clX3_9 : Cond.classLink RX3 9 RX6 ∈ wsL_law := tb_0 29 rfl rfl
theorem ins_X6 : Cond.instantiable RX6 1 ∈ wsL_law := tb_0 30 rfl rfl
theorem ini_X6 : Cond.initialized RX6 ∈ wsL_law := tb_0 3 rfl rfl
theorem flX3_18 : Cond.fieldLink RX3 18 "ShoutGroups$Library" "settings" "LShoutGroups$Row;" ∈ wsL_law := tb_0 121 rfl rfl
theorem flX3_24 : Cond.fieldLink RX3 24 "ShoutGroups$Library" "values" "LShoutGroups$Row;" ∈ wsL_law := tb_0 123 rfl rfl
theorem clX3_27 : Cond.classLink RX3 27 RX1 ∈ wsL_law := tb_0 42 rfl rfl
theorem ins_X1 : Cond.instantiable RX1 2 ∈ wsL_law := tb_0 43 rfl rfl
theorem ini_X1 : Cond.initialized RX1 ∈ wsL_law := tb_0 4 rfl rfl
theorem flX3_30 : Cond.fieldLink RX3 30 "ShoutGroups$Library" "cards" "LShoutGroups$Cards;" ∈ wsL_law := tb_0 125 rfl rfl
theorem clX3_34 : Cond.classLink RX3 34 RX7 ∈ wsL_law := tb_0 60 rfl rfl
theorem ins_X7 : Cond.instantiable RX7 5 ∈ wsL_law := tb_0 61 rfl rfl
theorem ini_X7 : Cond.initialized RX7 ∈ wsL_law := tb_0 5 rfl rfl
theorem flX3_37 : Cond.fieldLink RX3 37 "ShoutGroups$Library" "shelves" "LShoutGroups$Shelves;" ∈ wsL_law := tb_0 127 rfl rfl
theorem clX3_41 : Cond.classLink RX3 41 RX0 ∈ wsL_law := tb_0 88 rfl rfl
theorem ins_X0 : Cond.instantiable RX0 5 ∈ wsL_law := tb_0 89 rfl rfl
theorem ini_X0 : Cond.initialized RX0 ∈ wsL_law := tb_0 6 rfl rfl
theorem flX3_44 : Cond.fieldLink RX3 44 "ShoutGroups$Library" "account" "LShoutGroups$Account;" ∈ wsL_law := tb_0 129 rfl rfl
theorem flX3_48 : Cond.fieldLink RX3 48 "ShoutGroups$Library" "totals" "LShoutGroups$Row;" ∈ wsL_law := tb_0 131 rfl rfl
theorem flX3_51 : Cond.fieldLink RX3 51 "ShoutGroups$Library" "noteCalledBack" "LShoutGroups$Row;" ∈ wsL_law := tb_0 133 rfl rfl
theorem flX3_54 : Cond.fieldLink RX3 54 "ShoutGroups$Library" "noteShouts" "LShoutGroups$Row;" ∈ wsL_law := tb_0 135 rfl rfl
theorem flX3_57 : Cond.fieldLink RX3 57 "ShoutGroups$Library" "readerUses" "LShoutGroups$Row;" ∈ wsL_law := tb_0 137 rfl rfl
theorem flX3_60 : Cond.fieldLink RX3 60 "ShoutGroups$Library" "readerQuietUses" "LShoutGroups$Row;" ∈ wsL_law := tb_0 139 rfl rfl
theorem flX3_63 : Cond.fieldLink RX3 63 "ShoutGroups$Library" "readerCalledBack" "LShoutGroups$Row;" ∈ wsL_law := tb_0 141 rfl rfl
theorem flX3_66 : Cond.fieldLink RX3 66 "ShoutGroups$Library" "readerWasted" "LShoutGroups$Row;" ∈ wsL_law := tb_0 143 rfl rfl
theorem mlX3_15 : Cond.methodLink RX3 15 yX6_init ∈ wsL_law := tb_0 33 rfl rfl
theorem im_X6_init : Cond.instanceMethod yX6_init ∈ wsL_law := tb_0 34 rfl rfl
theorem co_X6_init : Cond.code yX6_init cX6_init 2 none ∈ wsL_law := tb_0 35 rfl rfl
theorem mlX6_1 : Cond.methodLink RX6 1 objectInit ∈ wsL_law := tb_0 36 rfl rfl
theorem ac_int : Cond.arrayClass .int ∈ wsL_law := tb_0 41 rfl rfl
theorem flX6_7 : Cond.fieldLink RX6 7 "ShoutGroups$Row" "cells" "[I" ∈ wsL_law := tb_0 37 rfl rfl
theorem im_X1_init : Cond.instanceMethod yX1_init ∈ wsL_law := tb_0 45 rfl rfl
theorem co_X1_init : Cond.code yX1_init cX1_init 1 none ∈ wsL_law := tb_0 46 rfl rfl
theorem mlX1_3 : Cond.methodLink RX1 3 objectInit ∈ wsL_law := tb_0 47 rfl rfl
theorem clX1_9 : Cond.classLink RX1 9 RX6 ∈ wsL_law := tb_0 48 rfl rfl
theorem flX1_14 : Cond.fieldLink RX1 14 "ShoutGroups$Cards" "kinds" "LShoutGroups$Row;" ∈ wsL_law := tb_0 50 rfl rfl
theorem flX1_20 : Cond.fieldLink RX1 20 "ShoutGroups$Cards" "names" "LShoutGroups$Row;" ∈ wsL_law := tb_0 53 rfl rfl
theorem mlX1_11 : Cond.methodLink RX1 11 yX6_init ∈ wsL_law := tb_0 49 rfl rfl
theorem im_X7_init : Cond.instanceMethod yX7_init ∈ wsL_law := tb_0 63 rfl rfl
theorem co_X7_init : Cond.code yX7_init cX7_init 1 none ∈ wsL_law := tb_0 64 rfl rfl
theorem mlX7_3 : Cond.methodLink RX7 3 objectInit ∈ wsL_law := tb_0 65 rfl rfl
theorem clX7_9 : Cond.classLink RX7 9 RX6 ∈ wsL_law := tb_0 66 rfl rfl
theorem flX7_14 : Cond.fieldLink RX7 14 "ShoutGroups$Shelves" "lengths" "LShoutGroups$Row;" ∈ wsL_law := tb_0 68 rfl rfl
theorem flX7_20 : Cond.fieldLink RX7 20 "ShoutGroups$Shelves" "notes" "LShoutGroups$Row;" ∈ wsL_law := tb_0 71 rfl rfl
theorem flX7_23 : Cond.fieldLink RX7 23 "ShoutGroups$Shelves" "values" "LShoutGroups$Row;" ∈ wsL_law := tb_0 72 rfl rfl
theorem flX7_26 : Cond.fieldLink RX7 26 "ShoutGroups$Shelves" "changed" "LShoutGroups$Row;" ∈ wsL_law := tb_0 73 rfl rfl
theorem flX7_29 : Cond.fieldLink RX7 29 "ShoutGroups$Shelves" "holders" "LShoutGroups$Row;" ∈ wsL_law := tb_0 74 rfl rfl
theorem mlX7_11 : Cond.methodLink RX7 11 yX6_init ∈ wsL_law := tb_0 67 rfl rfl
theorem im_X0_init : Cond.instanceMethod yX0_init ∈ wsL_law := tb_0 91 rfl rfl
theorem co_X0_init : Cond.code yX0_init cX0_init 1 none ∈ wsL_law := tb_0 92 rfl rfl
theorem mlX0_3 : Cond.methodLink RX0 3 objectInit ∈ wsL_law := tb_0 93 rfl rfl
theorem clX0_9 : Cond.classLink RX0 9 RX6 ∈ wsL_law := tb_0 94 rfl rfl
theorem flX0_14 : Cond.fieldLink RX0 14 "ShoutGroups$Account" "kinds" "LShoutGroups$Row;" ∈ wsL_law := tb_0 96 rfl rfl
theorem flX0_20 : Cond.fieldLink RX0 20 "ShoutGroups$Account" "readers" "LShoutGroups$Row;" ∈ wsL_law := tb_0 98 rfl rfl
theorem flX0_23 : Cond.fieldLink RX0 23 "ShoutGroups$Account" "notes" "LShoutGroups$Row;" ∈ wsL_law := tb_0 100 rfl rfl
theorem mlX0_11 : Cond.methodLink RX0 11 yX6_init ∈ wsL_law := tb_0 95 rfl rfl
theorem mlX3_69 : Cond.methodLink RX3 69 yX6_write ∈ wsL_law := tb_0 117 rfl rfl
theorem im_X6_write : Cond.instanceMethod yX6_write ∈ wsL_law := tb_0 118 rfl rfl
theorem se_X6_write : Cond.selects RX6 yX6_write yX6_write ∈ wsL_law := tb_0 119 rfl rfl
theorem co_X6_write : Cond.code yX6_write cX6_write 3 none ∈ wsL_law := tb_0 120 rfl rfl
theorem mlX8_21 : Cond.methodLink RX8 21 yX2_init ∈ wsL_law := tb_0 172 rfl rfl
theorem im_X2_init : Cond.instanceMethod yX2_init ∈ wsL_law := tb_0 173 rfl rfl
theorem co_X2_init : Cond.code yX2_init cX2_init 2 none ∈ wsL_law := tb_0 174 rfl rfl
theorem mlX2_3 : Cond.methodLink RX2 3 objectInit ∈ wsL_law := tb_0 175 rfl rfl
theorem clX2_9 : Cond.classLink RX2 9 RX3 ∈ wsL_law := tb_0 176 rfl rfl
theorem flX2_11 : Cond.fieldLink RX2 11 "ShoutGroups$History" "states" "[LShoutGroups$Library;" ∈ wsL_law := tb_0 179 rfl rfl
theorem mlX2_17 : Cond.methodLink RX2 17 yX3_init ∈ wsL_law := tb_0 178 rfl rfl
theorem im_X5_init : Cond.instanceMethod yX5_init ∈ wsL_law := tb_0 193 rfl rfl
theorem co_X5_init : Cond.code yX5_init cX5_init 1 none ∈ wsL_law := tb_0 194 rfl rfl
theorem mlX5_3 : Cond.methodLink RX5 3 objectInit ∈ wsL_law := tb_0 195 rfl rfl
theorem clX5_9 : Cond.classLink RX5 9 RX6 ∈ wsL_law := tb_0 196 rfl rfl
theorem flX5_14 : Cond.fieldLink RX5 14 "ShoutGroups$Pad" "codes" "LShoutGroups$Row;" ∈ wsL_law := tb_0 198 rfl rfl
theorem mlX5_11 : Cond.methodLink RX5 11 yX6_init ∈ wsL_law := tb_0 197 rfl rfl
theorem mlX8_39 : Cond.methodLink RX8 39 yX4_init ∈ wsL_law := tb_0 209 rfl rfl
theorem im_X4_init : Cond.instanceMethod yX4_init ∈ wsL_law := tb_0 210 rfl rfl
theorem co_X4_init : Cond.code yX4_init cX4_init 2 none ∈ wsL_law := tb_0 211 rfl rfl
theorem mlX4_3 : Cond.methodLink RX4 3 objectInit ∈ wsL_law := tb_0 212 rfl rfl
theorem flX4_9 : Cond.fieldLink RX4 9 "ShoutGroups$Orders" "pad" "LShoutGroups$Pad;" ∈ wsL_law := tb_0 213 rfl rfl
theorem mlL_12 : Cond.methodLink RL 12 yX9_init ∈ wsL_law := tb_2 213 rfl rfl
theorem im_X9_init : Cond.instanceMethod yX9_init ∈ wsL_law := tb_2 214 rfl rfl
theorem co_X9_init : Cond.code yX9_init cX9_init 1 none ∈ wsL_law := tb_2 215 rfl rfl
theorem mlX9_1 : Cond.methodLink RX9 1 objectInit ∈ wsL_law := tb_2 216 rfl rfl
theorem flX9_7 : Cond.fieldLink RX9 7 "ShoutGroupsModel" "at" "[I" ∈ wsL_law := tb_2 217 rfl rfl
theorem flX9_13 : Cond.fieldLink RX9 13 "ShoutGroupsModel" "past" "[I" ∈ wsL_law := tb_2 218 rfl rfl
theorem flX9_16 : Cond.fieldLink RX9 16 "ShoutGroupsModel" "slots" "[I" ∈ wsL_law := tb_2 221 rfl rfl
theorem ac_boolean : Cond.arrayClass .boolean ∈ wsL_law := tb_3 20 rfl rfl
theorem flX9_19 : Cond.fieldLink RX9 19 "ShoutGroupsModel" "isSaved" "[Z" ∈ wsL_law := tb_2 222 rfl rfl
theorem flX9_23 : Cond.fieldLink RX9 23 "ShoutGroupsModel" "aside" "[I" ∈ wsL_law := tb_2 223 rfl rfl
theorem flX9_26 : Cond.fieldLink RX9 26 "ShoutGroupsModel" "pad" "[I" ∈ wsL_law := tb_2 224 rfl rfl
theorem flX9_29 : Cond.fieldLink RX9 29 "ShoutGroupsModel" "sort" "[I" ∈ wsL_law := tb_2 229 rfl rfl
theorem flX9_32 : Cond.fieldLink RX9 32 "ShoutGroupsModel" "numbers" "[I" ∈ wsL_law := tb_2 230 rfl rfl
theorem mlL_13 : Cond.methodLink RL 13 yX8_set ∈ wsL_law := tb_1 19 rfl rfl
theorem im_X8_set : Cond.instanceMethod yX8_set ∈ wsL_law := tb_1 20 rfl rfl
theorem se_X8_set : Cond.selects RX8 yX8_set yX8_set ∈ wsL_law := tb_1 21 rfl rfl
theorem co_X8_set : Cond.code yX8_set cX8_set 4 (some .int) ∈ wsL_law := tb_1 22 rfl rfl
theorem mlX8_46 : Cond.methodLink RX8 46 yX8_isValueOf ∈ wsL_law := tb_1 23 rfl rfl
theorem st_X8_isValueOf : Cond.static yX8_isValueOf ∈ wsL_law := tb_1 24 rfl rfl
theorem co_X8_isValueOf : Cond.code yX8_isValueOf cX8_isValueOf 2 (some .boolean) ∈ wsL_law := tb_1 25 rfl rfl
theorem flX8_218 : Cond.fieldLink RX8 218 "ShoutGroups" "LOWEST" "[I" ∈ wsL_law := tb_1 26 rfl rfl
theorem flX8_222 : Cond.fieldLink RX8 222 "ShoutGroups" "HIGHEST" "[I" ∈ wsL_law := tb_1 28 rfl rfl
theorem mlX8_54 : Cond.methodLink RX8 54 yX1_howManyInUse ∈ wsL_law := tb_1 30 rfl rfl
theorem im_X1_howManyInUse : Cond.instanceMethod yX1_howManyInUse ∈ wsL_law := tb_1 31 rfl rfl
theorem se_X1_howManyInUse : Cond.selects RX1 yX1_howManyInUse yX1_howManyInUse ∈ wsL_law := tb_1 32 rfl rfl
theorem co_X1_howManyInUse : Cond.code yX1_howManyInUse cX1_howManyInUse 3 (some .int) ∈ wsL_law := tb_1 33 rfl rfl
theorem mlX1_23 : Cond.methodLink RX1 23 yX6_at ∈ wsL_law := tb_1 34 rfl rfl
theorem im_X6_at : Cond.instanceMethod yX6_at ∈ wsL_law := tb_1 35 rfl rfl
theorem se_X6_at : Cond.selects RX6 yX6_at yX6_at ∈ wsL_law := tb_1 36 rfl rfl
theorem co_X6_at : Cond.code yX6_at cX6_at 2 (some .int) ∈ wsL_law := tb_1 37 rfl rfl
theorem mlX8_60 : Cond.methodLink RX8 60 yX2_keep ∈ wsL_law := tb_1 38 rfl rfl
theorem im_X2_keep : Cond.instanceMethod yX2_keep ∈ wsL_law := tb_1 39 rfl rfl
theorem se_X2_keep : Cond.selects RX2 yX2_keep yX2_keep ∈ wsL_law := tb_1 40 rfl rfl
theorem co_X2_keep : Cond.code yX2_keep cX2_keep 3 none ∈ wsL_law := tb_1 41 rfl rfl
theorem flX2_18 : Cond.fieldLink RX2 18 "ShoutGroups$History" "length" "I" ∈ wsL_law := tb_0 181 rfl rfl
theorem flX2_22 : Cond.fieldLink RX2 22 "ShoutGroups$History" "first" "I" ∈ wsL_law := tb_0 180 rfl rfl
theorem mlX2_25 : Cond.methodLink RX2 25 yX2_stateAt ∈ wsL_law := tb_1 42 rfl rfl
theorem im_X2_stateAt : Cond.instanceMethod yX2_stateAt ∈ wsL_law := tb_1 44 rfl rfl
theorem se_X2_stateAt : Cond.selects RX2 yX2_stateAt yX2_stateAt ∈ wsL_law := tp_1 0 rfl
theorem co_X2_stateAt : Cond.code yX2_stateAt cX2_stateAt 3 (some (.object "ShoutGroups$Library")) ∈ wsL_law := tb_1 45 rfl rfl
theorem mlX2_29 : Cond.methodLink RX2 29 yX3_copyFrom ∈ wsL_law := tb_1 46 rfl rfl
theorem im_X3_copyFrom : Cond.instanceMethod yX3_copyFrom ∈ wsL_law := tb_1 47 rfl rfl
theorem se_X3_copyFrom : Cond.selects RX3 yX3_copyFrom yX3_copyFrom ∈ wsL_law := tb_1 48 rfl rfl
theorem co_X3_copyFrom : Cond.code yX3_copyFrom cX3_copyFrom 2 none ∈ wsL_law := tb_1 49 rfl rfl
theorem mlX3_73 : Cond.methodLink RX3 73 yX6_copyFrom ∈ wsL_law := tb_1 50 rfl rfl
theorem im_X6_copyFrom : Cond.instanceMethod yX6_copyFrom ∈ wsL_law := tb_1 51 rfl rfl
theorem se_X6_copyFrom : Cond.selects RX6 yX6_copyFrom yX6_copyFrom ∈ wsL_law := tb_1 52 rfl rfl
theorem co_X6_copyFrom : Cond.code yX6_copyFrom cX6_copyFrom 2 none ∈ wsL_law := tb_1 53 rfl rfl
theorem mlX6_19 : Cond.methodLink RX6 19 Lib.Math.min.name ∈ wsL_law := tb_1 54 rfl rfl
theorem st_ib.Math.min.name : Cond.static Lib.Math.min.name ∈ wsL_law := tb_1 55 rfl rfl
theorem ini_javalangMath : Cond.initialized "java/lang/Math" ∈ wsL_law := tb_0 11 rfl rfl
theorem co_ib.Math.min.name : Cond.code Lib.Math.min.name Lib.Math.min.code 2 (some .int) ∈ wsL_law := tb_1 56 rfl rfl
theorem mlX6_25 : Cond.methodLink RX6 25 arraycopyName ∈ wsL_law := tb_1 57 rfl rfl
theorem nat_arraycopyName : Cond.native arraycopyName ∈ wsL_law := tb_1 59 rfl rfl
theorem st_rraycopyName : Cond.static arraycopyName ∈ wsL_law := tb_1 58 rfl rfl
theorem ini_javalangSystem : Cond.initialized "java/lang/System" ∈ wsL_law := tb_0 12 rfl rfl
theorem mlX3_77 : Cond.methodLink RX3 77 yX1_copyFrom ∈ wsL_law := tb_1 60 rfl rfl
theorem im_X1_copyFrom : Cond.instanceMethod yX1_copyFrom ∈ wsL_law := tb_1 61 rfl rfl
theorem se_X1_copyFrom : Cond.selects RX1 yX1_copyFrom yX1_copyFrom ∈ wsL_law := tb_1 62 rfl rfl
theorem co_X1_copyFrom : Cond.code yX1_copyFrom cX1_copyFrom 2 none ∈ wsL_law := tb_1 63 rfl rfl
theorem mlX1_57 : Cond.methodLink RX1 57 yX6_copyFrom ∈ wsL_law := tb_1 64 rfl rfl
theorem mlX3_80 : Cond.methodLink RX3 80 yX7_copyFrom ∈ wsL_law := tb_1 65 rfl rfl
theorem im_X7_copyFrom : Cond.instanceMethod yX7_copyFrom ∈ wsL_law := tb_1 66 rfl rfl
theorem se_X7_copyFrom : Cond.selects RX7 yX7_copyFrom yX7_copyFrom ∈ wsL_law := tb_1 67 rfl rfl
theorem co_X7_copyFrom : Cond.code yX7_copyFrom cX7_copyFrom 2 none ∈ wsL_law := tb_1 68 rfl rfl
theorem mlX7_53 : Cond.methodLink RX7 53 yX6_copyFrom ∈ wsL_law := tb_1 69 rfl rfl
theorem mlX3_83 : Cond.methodLink RX3 83 yX0_copyFrom ∈ wsL_law := tb_1 70 rfl rfl
theorem im_X0_copyFrom : Cond.instanceMethod yX0_copyFrom ∈ wsL_law := tb_1 71 rfl rfl
theorem se_X0_copyFrom : Cond.selects RX0 yX0_copyFrom yX0_copyFrom ∈ wsL_law := tb_1 72 rfl rfl
theorem co_X0_copyFrom : Cond.code yX0_copyFrom cX0_copyFrom 2 none ∈ wsL_law := tb_1 73 rfl rfl
theorem flX0_26 : Cond.fieldLink RX0 26 "ShoutGroups$Account" "first" "I" ∈ wsL_law := tb_0 102 rfl rfl
theorem flX0_30 : Cond.fieldLink RX0 30 "ShoutGroups$Account" "length" "I" ∈ wsL_law := tb_0 103 rfl rfl
theorem mlX0_41 : Cond.methodLink RX0 41 yX6_copyFrom ∈ wsL_law := tb_1 74 rfl rfl
theorem mlX8_68 : Cond.methodLink RX8 68 yX6_at ∈ wsL_law := tb_1 75 rfl rfl
theorem mlX8_74 : Cond.methodLink RX8 74 yX6_write ∈ wsL_law := tb_1 76 rfl rfl
theorem mlL_17 : Cond.methodLink RL 17 yX9_set ∈ wsL_law := tb_3 176 rfl rfl
theorem im_X9_set : Cond.instanceMethod yX9_set ∈ wsL_law := tb_3 177 rfl rfl
theorem se_X9_set : Cond.selects RX9 yX9_set yX9_set ∈ wsL_law := tb_3 178 rfl rfl
theorem co_X9_set : Cond.code yX9_set cX9_set 4 (some .int) ∈ wsL_law := tb_3 179 rfl rfl
theorem mlX9_35 : Cond.methodLink RX9 35 yX9_in ∈ wsL_law := tb_3 32 rfl rfl
theorem st_X9_in : Cond.static yX9_in ∈ wsL_law := tb_3 33 rfl rfl
theorem co_X9_in : Cond.code yX9_in cX9_in 3 (some .boolean) ∈ wsL_law := tb_3 34 rfl rfl
theorem mlX9_164 : Cond.methodLink RX9 164 yX9_cardsThat ∈ wsL_law := tb_3 180 rfl rfl
theorem im_X9_cardsThat : Cond.instanceMethod yX9_cardsThat ∈ wsL_law := tb_3 182 rfl rfl
theorem se_X9_cardsThat : Cond.selects RX9 yX9_cardsThat yX9_cardsThat ∈ wsL_law := tp_3 13 rfl
theorem co_X9_cardsThat : Cond.code yX9_cardsThat cX9_cardsThat 5 (some .int) ∈ wsL_law := tb_3 183 rfl rfl
theorem mlX9_75 : Cond.methodLink RX9 75 yX9_ofN ∈ wsL_law := tb_3 86 rfl rfl
theorem im_X9_ofN : Cond.instanceMethod yX9_ofN ∈ wsL_law := tb_3 88 rfl rfl
theorem se_X9_ofN : Cond.selects RX9 yX9_ofN yX9_ofN ∈ wsL_law := tp_2 11 rfl
theorem co_X9_ofN : Cond.code yX9_ofN cX9_ofN 3 (some .int) ∈ wsL_law := tb_3 89 rfl rfl
theorem mlX9_46 : Cond.methodLink RX9 46 yX9_keep ∈ wsL_law := tb_3 42 rfl rfl
theorem im_X9_keep : Cond.instanceMethod yX9_keep ∈ wsL_law := tb_3 44 rfl rfl
theorem se_X9_keep : Cond.selects RX9 yX9_keep yX9_keep ∈ wsL_law := tp_2 0 rfl
theorem co_X9_keep : Cond.code yX9_keep cX9_keep 3 none ∈ wsL_law := tb_3 45 rfl rfl
theorem flX9_39 : Cond.fieldLink RX9 39 "ShoutGroupsModel" "pastMany" "I" ∈ wsL_law := tb_2 220 rfl rfl
theorem flX9_43 : Cond.fieldLink RX9 43 "ShoutGroupsModel" "pastFirst" "I" ∈ wsL_law := tb_2 219 rfl rfl
theorem mlL_18 : Cond.methodLink RL 18 yX8_read ∈ wsL_law := tb_1 77 rfl rfl
theorem im_X8_read : Cond.instanceMethod yX8_read ∈ wsL_law := tb_1 78 rfl rfl
theorem se_X8_read : Cond.selects RX8 yX8_read yX8_read ∈ wsL_law := tb_1 79 rfl rfl
theorem co_X8_read : Cond.code yX8_read cX8_read 3 (some .int) ∈ wsL_law := tb_1 80 rfl rfl
theorem mlX8_78 : Cond.methodLink RX8 78 yX8_happen ∈ wsL_law := tb_1 81 rfl rfl
theorem im_X8_happen : Cond.instanceMethod yX8_happen ∈ wsL_law := tb_1 83 rfl rfl
theorem se_X8_happen : Cond.selects RX8 yX8_happen yX8_happen ∈ wsL_law := tp_1 1 rfl
theorem co_X8_happen : Cond.code yX8_happen cX8_happen 7 (some .int) ∈ wsL_law := tb_1 84 rfl rfl
theorem mlX8_82 : Cond.methodLink RX8 82 yX3_errorOf ∈ wsL_law := tb_1 85 rfl rfl
theorem im_X3_errorOf : Cond.instanceMethod yX3_errorOf ∈ wsL_law := tb_1 86 rfl rfl
theorem se_X3_errorOf : Cond.selects RX3 yX3_errorOf yX3_errorOf ∈ wsL_law := tb_1 87 rfl rfl
theorem co_X3_errorOf : Cond.code yX3_errorOf cX3_errorOf 5 (some .int) ∈ wsL_law := tb_1 88 rfl rfl
theorem st_X8_isReader : Cond.static yX8_isReader ∈ wsL_law := tb_1 90 rfl rfl
theorem co_X8_isReader : Cond.code yX8_isReader cX8_isReader 1 (some .boolean) ∈ wsL_law := tb_1 91 rfl rfl
theorem st_X8_isNote : Cond.static yX8_isNote ∈ wsL_law := tb_1 93 rfl rfl
theorem co_X8_isNote : Cond.code yX8_isNote cX8_isNote 1 (some .boolean) ∈ wsL_law := tb_1 94 rfl rfl
theorem mlX3_93 : Cond.methodLink RX3 93 yX7_holds ∈ wsL_law := tb_1 95 rfl rfl
theorem im_X7_holds : Cond.instanceMethod yX7_holds ∈ wsL_law := tb_1 96 rfl rfl
theorem se_X7_holds : Cond.selects RX7 yX7_holds yX7_holds ∈ wsL_law := tb_1 97 rfl rfl
theorem co_X7_holds : Cond.code yX7_holds cX7_holds 3 (some .boolean) ∈ wsL_law := tb_1 98 rfl rfl
theorem mlX7_32 : Cond.methodLink RX7 32 yX6_at ∈ wsL_law := tb_1 99 rfl rfl
theorem st_X8_isIn : Cond.static yX8_isIn ∈ wsL_law := tb_1 101 rfl rfl
theorem co_X8_isIn : Cond.code yX8_isIn cX8_isIn 2 (some .boolean) ∈ wsL_law := tb_1 102 rfl rfl
theorem mlX3_100 : Cond.methodLink RX3 100 yX6_at ∈ wsL_law := tb_1 103 rfl rfl
theorem mlX8_90 : Cond.methodLink RX8 90 yX0_append ∈ wsL_law := tb_1 104 rfl rfl
theorem im_X0_append : Cond.instanceMethod yX0_append ∈ wsL_law := tb_1 105 rfl rfl
theorem se_X0_append : Cond.selects RX0 yX0_append yX0_append ∈ wsL_law := tb_1 106 rfl rfl
theorem co_X0_append : Cond.code yX0_append cX0_append 5 none ∈ wsL_law := tb_1 107 rfl rfl
theorem mlX0_33 : Cond.methodLink RX0 33 yX0_cellOf ∈ wsL_law := tb_1 108 rfl rfl
theorem im_X0_cellOf : Cond.instanceMethod yX0_cellOf ∈ wsL_law := tb_1 109 rfl rfl
theorem se_X0_cellOf : Cond.selects RX0 yX0_cellOf yX0_cellOf ∈ wsL_law := tb_1 110 rfl rfl
theorem co_X0_cellOf : Cond.code yX0_cellOf cX0_cellOf 2 (some .int) ∈ wsL_law := tb_1 111 rfl rfl
theorem mlX0_37 : Cond.methodLink RX0 37 yX6_write ∈ wsL_law := tb_1 112 rfl rfl
theorem mlX8_96 : Cond.methodLink RX8 96 yX3_lend ∈ wsL_law := tb_1 113 rfl rfl
theorem im_X3_lend : Cond.instanceMethod yX3_lend ∈ wsL_law := tb_1 114 rfl rfl
theorem se_X3_lend : Cond.selects RX3 yX3_lend yX3_lend ∈ wsL_law := tb_1 115 rfl rfl
theorem co_X3_lend : Cond.code yX3_lend cX3_lend 7 (some .int) ∈ wsL_law := tb_1 116 rfl rfl
theorem mlX3_104 : Cond.methodLink RX3 104 yX7_placeOf ∈ wsL_law := tb_1 117 rfl rfl
theorem im_X7_placeOf : Cond.instanceMethod yX7_placeOf ∈ wsL_law := tb_1 118 rfl rfl
theorem se_X7_placeOf : Cond.selects RX7 yX7_placeOf yX7_placeOf ∈ wsL_law := tb_1 119 rfl rfl
theorem co_X7_placeOf : Cond.code yX7_placeOf cX7_placeOf 6 (some .int) ∈ wsL_law := tb_1 120 rfl rfl
theorem mlX3_108 : Cond.methodLink RX3 108 yX3_noteUse ∈ wsL_law := tb_1 121 rfl rfl
theorem im_X3_noteUse : Cond.instanceMethod yX3_noteUse ∈ wsL_law := tb_1 123 rfl rfl
theorem se_X3_noteUse : Cond.selects RX3 yX3_noteUse yX3_noteUse ∈ wsL_law := tp_1 2 rfl
theorem co_X3_noteUse : Cond.code yX3_noteUse cX3_noteUse 3 none ∈ wsL_law := tb_1 124 rfl rfl
theorem mlX3_135 : Cond.methodLink RX3 135 yX6_add ∈ wsL_law := tb_1 125 rfl rfl
theorem im_X6_add : Cond.instanceMethod yX6_add ∈ wsL_law := tb_1 126 rfl rfl
theorem se_X6_add : Cond.selects RX6 yX6_add yX6_add ∈ wsL_law := tb_1 127 rfl rfl
theorem co_X6_add : Cond.code yX6_add cX6_add 3 none ∈ wsL_law := tb_1 128 rfl rfl
theorem mlX3_112 : Cond.methodLink RX3 112 yX7_valueAt ∈ wsL_law := tb_1 129 rfl rfl
theorem im_X7_valueAt : Cond.instanceMethod yX7_valueAt ∈ wsL_law := tb_1 130 rfl rfl
theorem se_X7_valueAt : Cond.selects RX7 yX7_valueAt yX7_valueAt ∈ wsL_law := tb_1 131 rfl rfl
theorem co_X7_valueAt : Cond.code yX7_valueAt cX7_valueAt 3 (some .int) ∈ wsL_law := tb_1 132 rfl rfl
theorem mlX3_115 : Cond.methodLink RX3 115 yX7_isChangedAt ∈ wsL_law := tb_1 133 rfl rfl
theorem im_X7_isChangedAt : Cond.instanceMethod yX7_isChangedAt ∈ wsL_law := tb_1 134 rfl rfl
theorem se_X7_isChangedAt : Cond.selects RX7 yX7_isChangedAt yX7_isChangedAt ∈ wsL_law := tb_1 135 rfl rfl
theorem co_X7_isChangedAt : Cond.code yX7_isChangedAt cX7_isChangedAt 3 (some .boolean) ∈ wsL_law := tb_1 136 rfl rfl
theorem mlX3_118 : Cond.methodLink RX3 118 yX7_remove ∈ wsL_law := tb_1 137 rfl rfl
theorem im_X7_remove : Cond.instanceMethod yX7_remove ∈ wsL_law := tb_1 138 rfl rfl
theorem se_X7_remove : Cond.selects RX7 yX7_remove yX7_remove ∈ wsL_law := tb_1 139 rfl rfl
theorem co_X7_remove : Cond.code yX7_remove cX7_remove 8 none ∈ wsL_law := tb_1 140 rfl rfl
theorem st_X8_only : Cond.static yX8_only ∈ wsL_law := tb_1 142 rfl rfl
theorem co_X8_only : Cond.code yX8_only cX8_only 1 (some .int) ∈ wsL_law := tb_1 143 rfl rfl
theorem mlX7_40 : Cond.methodLink RX7 40 yX6_write ∈ wsL_law := tb_1 144 rfl rfl
theorem mlX3_121 : Cond.methodLink RX3 121 yX7_lay ∈ wsL_law := tb_1 145 rfl rfl
theorem im_X7_lay : Cond.instanceMethod yX7_lay ∈ wsL_law := tb_1 146 rfl rfl
theorem se_X7_lay : Cond.selects RX7 yX7_lay yX7_lay ∈ wsL_law := tb_1 147 rfl rfl
theorem co_X7_lay : Cond.code yX7_lay cX7_lay 7 none ∈ wsL_law := tb_1 148 rfl rfl
theorem mlX3_125 : Cond.methodLink RX3 125 yX3_callBack ∈ wsL_law := tb_1 149 rfl rfl
theorem im_X3_callBack : Cond.instanceMethod yX3_callBack ∈ wsL_law := tb_1 151 rfl rfl
theorem se_X3_callBack : Cond.selects RX3 yX3_callBack yX3_callBack ∈ wsL_law := tp_1 3 rfl
theorem co_X3_callBack : Cond.code yX3_callBack cX3_callBack 7 (some .int) ∈ wsL_law := tb_1 152 rfl rfl
theorem mlX3_154 : Cond.methodLink RX3 154 yX3_called ∈ wsL_law := tb_1 153 rfl rfl
theorem im_X3_called : Cond.instanceMethod yX3_called ∈ wsL_law := tb_1 154 rfl rfl
theorem se_X3_called : Cond.selects RX3 yX3_called yX3_called ∈ wsL_law := tb_1 155 rfl rfl
theorem co_X3_called : Cond.code yX3_called cX3_called 2 (some .int) ∈ wsL_law := tb_1 156 rfl rfl
theorem mlX3_177 : Cond.methodLink RX3 177 yX1_called ∈ wsL_law := tb_1 157 rfl rfl
theorem im_X1_called : Cond.instanceMethod yX1_called ∈ wsL_law := tb_1 158 rfl rfl
theorem se_X1_called : Cond.selects RX1 yX1_called yX1_called ∈ wsL_law := tb_1 159 rfl rfl
theorem co_X1_called : Cond.code yX1_called cX1_called 6 (some .int) ∈ wsL_law := tb_1 160 rfl rfl
theorem st_X8_groupOf : Cond.static yX8_groupOf ∈ wsL_law := tb_1 162 rfl rfl
theorem co_X8_groupOf : Cond.code yX8_groupOf cX8_groupOf 2 (some .int) ∈ wsL_law := tb_1 163 rfl rfl
theorem mlX3_160 : Cond.methodLink RX3 160 yX3_takeAway ∈ wsL_law := tb_1 167 rfl rfl
theorem im_X3_takeAway : Cond.instanceMethod yX3_takeAway ∈ wsL_law := tb_1 169 rfl rfl
theorem se_X3_takeAway : Cond.selects RX3 yX3_takeAway yX3_takeAway ∈ wsL_law := tp_1 4 rfl
theorem co_X3_takeAway : Cond.code yX3_takeAway cX3_takeAway 4 none ∈ wsL_law := tb_1 170 rfl rfl
theorem mlX3_128 : Cond.methodLink RX3 128 yX1_become ∈ wsL_law := tb_1 171 rfl rfl
theorem im_X1_become : Cond.instanceMethod yX1_become ∈ wsL_law := tb_1 172 rfl rfl
theorem se_X1_become : Cond.selects RX1 yX1_become yX1_become ∈ wsL_law := tb_1 173 rfl rfl
theorem co_X1_become : Cond.code yX1_become cX1_become 4 none ∈ wsL_law := tb_1 174 rfl rfl
theorem mlX1_38 : Cond.methodLink RX1 38 yX6_write ∈ wsL_law := tb_1 175 rfl rfl
theorem mlX3_132 : Cond.methodLink RX3 132 yX3_makeRoom ∈ wsL_law := tb_1 176 rfl rfl
theorem im_X3_makeRoom : Cond.instanceMethod yX3_makeRoom ∈ wsL_law := tb_1 178 rfl rfl
theorem se_X3_makeRoom : Cond.selects RX3 yX3_makeRoom yX3_makeRoom ∈ wsL_law := tp_1 5 rfl
theorem co_X3_makeRoom : Cond.code yX3_makeRoom cX3_makeRoom 4 none ∈ wsL_law := tb_1 179 rfl rfl
theorem mlX3_163 : Cond.methodLink RX3 163 yX3_copiesInTheWay ∈ wsL_law := tb_1 180 rfl rfl
theorem im_X3_copiesInTheWay : Cond.instanceMethod yX3_copiesInTheWay ∈ wsL_law := tb_1 182 rfl rfl
theorem se_X3_copiesInTheWay : Cond.selects RX3 yX3_copiesInTheWay yX3_copiesInTheWay ∈ wsL_law := tp_1 6 rfl
theorem co_X3_copiesInTheWay : Cond.code yX3_copiesInTheWay cX3_copiesInTheWay 2 (some .int) ∈ wsL_law := tb_1 183 rfl rfl
theorem mlX3_172 : Cond.methodLink RX3 172 Lib.Math.max.name ∈ wsL_law := tb_1 184 rfl rfl
theorem st_ib.Math.max.name : Cond.static Lib.Math.max.name ∈ wsL_law := tb_1 185 rfl rfl
theorem co_ib.Math.max.name : Cond.code Lib.Math.max.name Lib.Math.max.code 2 (some .int) ∈ wsL_law := tb_1 186 rfl rfl
theorem mlX3_166 : Cond.methodLink RX3 166 yX3_giveBack ∈ wsL_law := tb_1 187 rfl rfl
theorem im_X3_giveBack : Cond.instanceMethod yX3_giveBack ∈ wsL_law := tb_1 188 rfl rfl
theorem se_X3_giveBack : Cond.selects RX3 yX3_giveBack yX3_giveBack ∈ wsL_law := tb_1 189 rfl rfl
theorem co_X3_giveBack : Cond.code yX3_giveBack cX3_giveBack 5 (some .int) ∈ wsL_law := tb_1 190 rfl rfl
theorem mlX3_148 : Cond.methodLink RX3 148 yX7_noteAt ∈ wsL_law := tb_1 191 rfl rfl
theorem im_X7_noteAt : Cond.instanceMethod yX7_noteAt ∈ wsL_law := tb_1 192 rfl rfl
theorem se_X7_noteAt : Cond.selects RX7 yX7_noteAt yX7_noteAt ∈ wsL_law := tb_1 193 rfl rfl
theorem co_X7_noteAt : Cond.code yX7_noteAt cX7_noteAt 3 (some .int) ∈ wsL_law := tb_1 194 rfl rfl
theorem mlX3_151 : Cond.methodLink RX3 151 yX1_strike ∈ wsL_law := tb_1 195 rfl rfl
theorem im_X1_strike : Cond.instanceMethod yX1_strike ∈ wsL_law := tb_1 196 rfl rfl
theorem se_X1_strike : Cond.selects RX1 yX1_strike yX1_strike ∈ wsL_law := tb_1 197 rfl rfl
theorem co_X1_strike : Cond.code yX1_strike cX1_strike 4 none ∈ wsL_law := tb_1 198 rfl rfl
theorem mlX3_138 : Cond.methodLink RX3 138 yX1_name ∈ wsL_law := tb_1 199 rfl rfl
theorem im_X1_name : Cond.instanceMethod yX1_name ∈ wsL_law := tb_1 200 rfl rfl
theorem se_X1_name : Cond.selects RX1 yX1_name yX1_name ∈ wsL_law := tb_1 201 rfl rfl
theorem co_X1_name : Cond.code yX1_name cX1_name 6 none ∈ wsL_law := tb_1 202 rfl rfl
theorem mlX1_42 : Cond.methodLink RX1 42 yJ6_bitCount_0f7a4 ∈ wsL_law := tb_1 203 rfl rfl
theorem st_J6_bitCount_0f7a4 : Cond.static yJ6_bitCount_0f7a4 ∈ wsL_law := tb_1 204 rfl rfl
theorem ini_J6 : Cond.initialized RJ6 ∈ wsL_law := tb_0 13 rfl rfl
theorem co_J6_bitCount_0f7a4 : Cond.code yJ6_bitCount_0f7a4 cJ6_bitCount_0f7a4 1 (some .int) ∈ wsL_law := tb_1 205 rfl rfl
theorem kcJ6_265 : Cond.constant RJ6 265 (1431655765) ∈ wsL_law := tb_1 206 rfl rfl
theorem kcJ6_266 : Cond.constant RJ6 266 (858993459) ∈ wsL_law := tb_1 207 rfl rfl
theorem kcJ6_267 : Cond.constant RJ6 267 (252645135) ∈ wsL_law := tb_1 208 rfl rfl
theorem mlX1_47 : Cond.methodLink RX1 47 yX1_become ∈ wsL_law := tb_1 209 rfl rfl
theorem mlX1_51 : Cond.methodLink RX1 51 yX1_groupsOf ∈ wsL_law := tb_1 210 rfl rfl
theorem st_X1_groupsOf : Cond.static yX1_groupsOf ∈ wsL_law := tb_1 211 rfl rfl
theorem co_X1_groupsOf : Cond.code yX1_groupsOf cX1_groupsOf 4 (some .int) ∈ wsL_law := tb_1 212 rfl rfl
theorem mlX8_100 : Cond.methodLink RX8 100 yX3_rewrite ∈ wsL_law := tb_1 213 rfl rfl
theorem im_X3_rewrite : Cond.instanceMethod yX3_rewrite ∈ wsL_law := tb_1 214 rfl rfl
theorem se_X3_rewrite : Cond.selects RX3 yX3_rewrite yX3_rewrite ∈ wsL_law := tb_1 215 rfl rfl
theorem co_X3_rewrite : Cond.code yX3_rewrite cX3_rewrite 6 (some .int) ∈ wsL_law := tb_1 216 rfl rfl
theorem mlX3_142 : Cond.methodLink RX3 142 yX1_isOwnedBy ∈ wsL_law := tb_1 217 rfl rfl
theorem im_X1_isOwnedBy : Cond.instanceMethod yX1_isOwnedBy ∈ wsL_law := tb_1 218 rfl rfl
theorem se_X1_isOwnedBy : Cond.selects RX1 yX1_isOwnedBy yX1_isOwnedBy ∈ wsL_law := tb_1 219 rfl rfl
theorem co_X1_isOwnedBy : Cond.code yX1_isOwnedBy cX1_isOwnedBy 3 (some .boolean) ∈ wsL_law := tb_1 220 rfl rfl
theorem mlX8_108 : Cond.methodLink RX8 108 yX7_placeOf ∈ wsL_law := tb_1 222 rfl rfl
theorem mlX8_113 : Cond.methodLink RX8 113 yX3_giveBack ∈ wsL_law := tb_1 223 rfl rfl
theorem mlX8_116 : Cond.methodLink RX8 116 yX3_callIn ∈ wsL_law := tb_1 224 rfl rfl
theorem im_X3_callIn : Cond.instanceMethod yX3_callIn ∈ wsL_law := tb_1 225 rfl rfl
theorem se_X3_callIn : Cond.selects RX3 yX3_callIn yX3_callIn ∈ wsL_law := tb_1 226 rfl rfl
theorem co_X3_callIn : Cond.code yX3_callIn cX3_callIn 3 (some .int) ∈ wsL_law := tb_1 227 rfl rfl
theorem mlL_21 : Cond.methodLink RL 21 yX9_read ∈ wsL_law := tb_3 21 rfl rfl
theorem im_X9_read : Cond.instanceMethod yX9_read ∈ wsL_law := tb_3 22 rfl rfl
theorem se_X9_read : Cond.selects RX9 yX9_read yX9_read ∈ wsL_law := tb_3 23 rfl rfl
theorem co_X9_read : Cond.code yX9_read cX9_read 3 (some .int) ∈ wsL_law := tb_3 24 rfl rfl
theorem mlX9_146 : Cond.methodLink RX9 146 yX9_tryRead ∈ wsL_law := tb_3 25 rfl rfl
theorem im_X9_tryRead : Cond.instanceMethod yX9_tryRead ∈ wsL_law := tb_3 27 rfl rfl
theorem se_X9_tryRead : Cond.selects RX9 yX9_tryRead yX9_tryRead ∈ wsL_law := tp_1 14 rfl
theorem co_X9_tryRead : Cond.code yX9_tryRead cX9_tryRead 4 (some .int) ∈ wsL_law := tb_3 28 rfl rfl
theorem mlX9_129 : Cond.methodLink RX9 129 yX9_isReader ∈ wsL_law := tb_3 29 rfl rfl
theorem st_X9_isReader : Cond.static yX9_isReader ∈ wsL_law := tb_3 30 rfl rfl
theorem co_X9_isReader : Cond.code yX9_isReader cX9_isReader 1 (some .boolean) ∈ wsL_law := tb_3 31 rfl rfl
theorem mlX9_133 : Cond.methodLink RX9 133 yX9_isNote ∈ wsL_law := tb_3 35 rfl rfl
theorem st_X9_isNote : Cond.static yX9_isNote ∈ wsL_law := tb_3 36 rfl rfl
theorem co_X9_isNote : Cond.code yX9_isNote cX9_isNote 1 (some .boolean) ∈ wsL_law := tb_3 37 rfl rfl
theorem mlX9_136 : Cond.methodLink RX9 136 yX9_keepIf ∈ wsL_law := tb_3 38 rfl rfl
theorem im_X9_keepIf : Cond.instanceMethod yX9_keepIf ∈ wsL_law := tb_3 40 rfl rfl
theorem se_X9_keepIf : Cond.selects RX9 yX9_keepIf yX9_keepIf ∈ wsL_law := tp_1 15 rfl
theorem co_X9_keepIf : Cond.code yX9_keepIf cX9_keepIf 2 none ∈ wsL_law := tb_3 41 rfl rfl
theorem mlX9_140 : Cond.methodLink RX9 140 yX9_enter ∈ wsL_law := tb_3 46 rfl rfl
theorem im_X9_enter : Cond.instanceMethod yX9_enter ∈ wsL_law := tb_3 48 rfl rfl
theorem se_X9_enter : Cond.selects RX9 yX9_enter yX9_enter ∈ wsL_law := tp_2 1 rfl
theorem co_X9_enter : Cond.code yX9_enter cX9_enter 5 none ∈ wsL_law := tb_3 49 rfl rfl
theorem mlX9_143 : Cond.methodLink RX9 143 yX9_reads ∈ wsL_law := tb_3 50 rfl rfl
theorem im_X9_reads : Cond.instanceMethod yX9_reads ∈ wsL_law := tb_3 52 rfl rfl
theorem se_X9_reads : Cond.selects RX9 yX9_reads yX9_reads ∈ wsL_law := tp_2 2 rfl
theorem co_X9_reads : Cond.code yX9_reads cX9_reads 4 (some .int) ∈ wsL_law := tb_3 53 rfl rfl
theorem mlX9_57 : Cond.methodLink RX9 57 yX9_moreR ∈ wsL_law := tb_3 54 rfl rfl
theorem im_X9_moreR : Cond.instanceMethod yX9_moreR ∈ wsL_law := tb_3 56 rfl rfl
theorem se_X9_moreR : Cond.selects RX9 yX9_moreR yX9_moreR ∈ wsL_law := tp_2 3 rfl
theorem co_X9_moreR : Cond.code yX9_moreR cX9_moreR 4 none ∈ wsL_law := tb_3 57 rfl rfl
theorem mlX9_95 : Cond.methodLink RX9 95 yX9_placeOf ∈ wsL_law := tb_3 58 rfl rfl
theorem im_X9_placeOf : Cond.instanceMethod yX9_placeOf ∈ wsL_law := tb_3 60 rfl rfl
theorem se_X9_placeOf : Cond.selects RX9 yX9_placeOf yX9_placeOf ∈ wsL_law := tp_2 4 rfl
theorem co_X9_placeOf : Cond.code yX9_placeOf cX9_placeOf 4 (some .int) ∈ wsL_law := tb_3 61 rfl rfl
theorem mlX9_49 : Cond.methodLink RX9 49 yX9_ofR ∈ wsL_law := tb_3 62 rfl rfl
theorem im_X9_ofR : Cond.instanceMethod yX9_ofR ∈ wsL_law := tb_3 64 rfl rfl
theorem se_X9_ofR : Cond.selects RX9 yX9_ofR yX9_ofR ∈ wsL_law := tp_2 5 rfl
theorem co_X9_ofR : Cond.code yX9_ofR cX9_ofR 3 (some .int) ∈ wsL_law := tb_3 65 rfl rfl
theorem mlX9_53 : Cond.methodLink RX9 53 yX9_ofC ∈ wsL_law := tb_3 66 rfl rfl
theorem im_X9_ofC : Cond.instanceMethod yX9_ofC ∈ wsL_law := tb_3 68 rfl rfl
theorem se_X9_ofC : Cond.selects RX9 yX9_ofC yX9_ofC ∈ wsL_law := tp_2 6 rfl
theorem co_X9_ofC : Cond.code yX9_ofC cX9_ofC 4 (some .int) ∈ wsL_law := tb_3 69 rfl rfl
theorem mlX9_117 : Cond.methodLink RX9 117 yX9_use ∈ wsL_law := tb_3 70 rfl rfl
theorem im_X9_use : Cond.instanceMethod yX9_use ∈ wsL_law := tb_3 72 rfl rfl
theorem se_X9_use : Cond.selects RX9 yX9_use yX9_use ∈ wsL_law := tp_2 7 rfl
theorem co_X9_use : Cond.code yX9_use cX9_use 6 none ∈ wsL_law := tb_3 73 rfl rfl
theorem mlX9_65 : Cond.methodLink RX9 65 yX9_takeOff ∈ wsL_law := tb_3 74 rfl rfl
theorem im_X9_takeOff : Cond.instanceMethod yX9_takeOff ∈ wsL_law := tb_3 76 rfl rfl
theorem se_X9_takeOff : Cond.selects RX9 yX9_takeOff yX9_takeOff ∈ wsL_law := tp_2 8 rfl
theorem co_X9_takeOff : Cond.code yX9_takeOff cX9_takeOff 4 none ∈ wsL_law := tb_3 77 rfl rfl
theorem mlX9_69 : Cond.methodLink RX9 69 yX9_layOn ∈ wsL_law := tb_3 78 rfl rfl
theorem im_X9_layOn : Cond.instanceMethod yX9_layOn ∈ wsL_law := tb_3 80 rfl rfl
theorem se_X9_layOn : Cond.selects RX9 yX9_layOn yX9_layOn ∈ wsL_law := tp_2 9 rfl
theorem co_X9_layOn : Cond.code yX9_layOn cX9_layOn 6 none ∈ wsL_law := tb_3 81 rfl rfl
theorem mlX9_61 : Cond.methodLink RX9 61 yX9_layC ∈ wsL_law := tb_3 82 rfl rfl
theorem im_X9_layC : Cond.instanceMethod yX9_layC ∈ wsL_law := tb_3 84 rfl rfl
theorem se_X9_layC : Cond.selects RX9 yX9_layC yX9_layC ∈ wsL_law := tp_2 10 rfl
theorem co_X9_layC : Cond.code yX9_layC cX9_layC 5 none ∈ wsL_law := tb_3 85 rfl rfl
theorem mlX9_120 : Cond.methodLink RX9 120 yX9_callBackBut ∈ wsL_law := tb_3 90 rfl rfl
theorem im_X9_callBackBut : Cond.instanceMethod yX9_callBackBut ∈ wsL_law := tb_3 92 rfl rfl
theorem se_X9_callBackBut : Cond.selects RX9 yX9_callBackBut yX9_callBackBut ∈ wsL_law := tp_2 12 rfl
theorem co_X9_callBackBut : Cond.code yX9_callBackBut cX9_callBackBut 6 none ∈ wsL_law := tb_3 93 rfl rfl
theorem mlX9_101 : Cond.methodLink RX9 101 yX9_called ∈ wsL_law := tb_3 94 rfl rfl
theorem im_X9_called : Cond.instanceMethod yX9_called ∈ wsL_law := tb_3 96 rfl rfl
theorem se_X9_called : Cond.selects RX9 yX9_called yX9_called ∈ wsL_law := tp_2 13 rfl
theorem co_X9_called : Cond.code yX9_called cX9_called 5 (some .int) ∈ wsL_law := tb_3 97 rfl rfl
theorem mlX9_78 : Cond.methodLink RX9 78 yX9_group ∈ wsL_law := tb_3 98 rfl rfl
theorem im_X9_group : Cond.instanceMethod yX9_group ∈ wsL_law := tb_3 100 rfl rfl
theorem se_X9_group : Cond.selects RX9 yX9_group yX9_group ∈ wsL_law := tp_2 14 rfl
theorem co_X9_group : Cond.code yX9_group cX9_group 2 (some .int) ∈ wsL_law := tb_3 101 rfl rfl
theorem mlX9_82 : Cond.methodLink RX9 82 yX9_has ∈ wsL_law := tb_3 102 rfl rfl
theorem st_X9_has : Cond.static yX9_has ∈ wsL_law := tb_3 103 rfl rfl
theorem co_X9_has : Cond.code yX9_has cX9_has 2 (some .boolean) ∈ wsL_law := tb_3 104 rfl rfl
theorem mlX9_104 : Cond.methodLink RX9 104 yX9_callBack ∈ wsL_law := tb_3 105 rfl rfl
theorem im_X9_callBack : Cond.instanceMethod yX9_callBack ∈ wsL_law := tb_3 107 rfl rfl
theorem se_X9_callBack : Cond.selects RX9 yX9_callBack yX9_callBack ∈ wsL_law := tp_2 15 rfl
theorem co_X9_callBack : Cond.code yX9_callBack cX9_callBack 4 none ∈ wsL_law := tb_3 108 rfl rfl
theorem mlX9_98 : Cond.methodLink RX9 98 yX9_giveBack ∈ wsL_law := tb_3 109 rfl rfl
theorem im_X9_giveBack : Cond.instanceMethod yX9_giveBack ∈ wsL_law := tb_3 111 rfl rfl
theorem se_X9_giveBack : Cond.selects RX9 yX9_giveBack yX9_giveBack ∈ wsL_law := tp_3 0 rfl
theorem co_X9_giveBack : Cond.code yX9_giveBack cX9_giveBack 3 none ∈ wsL_law := tb_3 112 rfl rfl
theorem mlX9_72 : Cond.methodLink RX9 72 yX9_layN ∈ wsL_law := tb_3 113 rfl rfl
theorem im_X9_layN : Cond.instanceMethod yX9_layN ∈ wsL_law := tb_3 115 rfl rfl
theorem se_X9_layN : Cond.selects RX9 yX9_layN yX9_layN ∈ wsL_law := tp_3 1 rfl
theorem co_X9_layN : Cond.code yX9_layN cX9_layN 4 none ∈ wsL_law := tb_3 116 rfl rfl
theorem mlX9_86 : Cond.methodLink RX9 86 yX9_layCard ∈ wsL_law := tb_3 117 rfl rfl
theorem im_X9_layCard : Cond.instanceMethod yX9_layCard ∈ wsL_law := tb_3 119 rfl rfl
theorem se_X9_layCard : Cond.selects RX9 yX9_layCard yX9_layCard ∈ wsL_law := tp_3 2 rfl
theorem co_X9_layCard : Cond.code yX9_layCard cX9_layCard 4 none ∈ wsL_law := tb_3 120 rfl rfl
theorem mlX9_123 : Cond.methodLink RX9 123 yX9_ask ∈ wsL_law := tb_3 121 rfl rfl
theorem im_X9_ask : Cond.instanceMethod yX9_ask ∈ wsL_law := tb_3 123 rfl rfl
theorem se_X9_ask : Cond.selects RX9 yX9_ask yX9_ask ∈ wsL_law := tp_3 3 rfl
theorem co_X9_ask : Cond.code yX9_ask cX9_ask 3 none ∈ wsL_law := tb_3 124 rfl rfl
theorem mlX9_113 : Cond.methodLink RX9 113 yX9_makeRoom ∈ wsL_law := tb_3 125 rfl rfl
theorem im_X9_makeRoom : Cond.instanceMethod yX9_makeRoom ∈ wsL_law := tb_3 127 rfl rfl
theorem se_X9_makeRoom : Cond.selects RX9 yX9_makeRoom yX9_makeRoom ∈ wsL_law := tp_3 4 rfl
theorem co_X9_makeRoom : Cond.code yX9_makeRoom cX9_makeRoom 2 none ∈ wsL_law := tb_3 128 rfl rfl
theorem mlX9_110 : Cond.methodLink RX9 110 yX9_returned ∈ wsL_law := tb_3 129 rfl rfl
theorem im_X9_returned : Cond.instanceMethod yX9_returned ∈ wsL_law := tb_3 131 rfl rfl
theorem se_X9_returned : Cond.selects RX9 yX9_returned yX9_returned ∈ wsL_law := tp_3 5 rfl
theorem co_X9_returned : Cond.code yX9_returned cX9_returned 5 (some .int) ∈ wsL_law := tb_3 132 rfl rfl
theorem mlX9_107 : Cond.methodLink RX9 107 yX9_strike ∈ wsL_law := tb_3 133 rfl rfl
theorem im_X9_strike : Cond.instanceMethod yX9_strike ∈ wsL_law := tb_3 135 rfl rfl
theorem se_X9_strike : Cond.selects RX9 yX9_strike yX9_strike ∈ wsL_law := tp_3 6 rfl
theorem co_X9_strike : Cond.code yX9_strike cX9_strike 4 none ∈ wsL_law := tb_3 136 rfl rfl
theorem mlX9_126 : Cond.methodLink RX9 126 yX9_writeOn ∈ wsL_law := tb_3 137 rfl rfl
theorem im_X9_writeOn : Cond.instanceMethod yX9_writeOn ∈ wsL_law := tb_3 139 rfl rfl
theorem se_X9_writeOn : Cond.selects RX9 yX9_writeOn yX9_writeOn ∈ wsL_law := tp_3 7 rfl
theorem co_X9_writeOn : Cond.code yX9_writeOn cX9_writeOn 5 none ∈ wsL_law := tb_3 140 rfl rfl
theorem mlX9_89 : Cond.methodLink RX9 89 yX9_many ∈ wsL_law := tb_3 141 rfl rfl
theorem st_X9_many : Cond.static yX9_many ∈ wsL_law := tb_3 142 rfl rfl
theorem co_X9_many : Cond.code yX9_many cX9_many 3 (some .int) ∈ wsL_law := tb_3 143 rfl rfl
theorem mlX9_92 : Cond.methodLink RX9 92 yX9_groupsOf ∈ wsL_law := tb_3 144 rfl rfl
theorem im_X9_groupsOf : Cond.instanceMethod yX9_groupsOf ∈ wsL_law := tb_3 146 rfl rfl
theorem se_X9_groupsOf : Cond.selects RX9 yX9_groupsOf yX9_groupsOf ∈ wsL_law := tp_3 8 rfl
theorem co_X9_groupsOf : Cond.code yX9_groupsOf cX9_groupsOf 4 (some .int) ∈ wsL_law := tb_3 147 rfl rfl
theorem mlL_22 : Cond.methodLink RL 22 yX8_change ∈ wsL_law := tb_1 228 rfl rfl
theorem im_X8_change : Cond.instanceMethod yX8_change ∈ wsL_law := tb_1 229 rfl rfl
theorem se_X8_change : Cond.selects RX8 yX8_change yX8_change ∈ wsL_law := tb_1 230 rfl rfl
theorem co_X8_change : Cond.code yX8_change cX8_change 4 (some .int) ∈ wsL_law := tb_1 231 rfl rfl
theorem mlL_26 : Cond.methodLink RL 26 yX9_change ∈ wsL_law := tb_3 148 rfl rfl
theorem im_X9_change : Cond.instanceMethod yX9_change ∈ wsL_law := tb_3 149 rfl rfl
theorem se_X9_change : Cond.selects RX9 yX9_change yX9_change ∈ wsL_law := tb_3 150 rfl rfl
theorem co_X9_change : Cond.code yX9_change cX9_change 4 (some .int) ∈ wsL_law := tb_3 151 rfl rfl
theorem mlX9_153 : Cond.methodLink RX9 153 yX9_tryChange ∈ wsL_law := tb_3 152 rfl rfl
theorem im_X9_tryChange : Cond.instanceMethod yX9_tryChange ∈ wsL_law := tb_3 154 rfl rfl
theorem se_X9_tryChange : Cond.selects RX9 yX9_tryChange yX9_tryChange ∈ wsL_law := tp_3 9 rfl
theorem co_X9_tryChange : Cond.code yX9_tryChange cX9_tryChange 5 (some .int) ∈ wsL_law := tb_3 155 rfl rfl
theorem mlX9_150 : Cond.methodLink RX9 150 yX9_changes ∈ wsL_law := tb_3 156 rfl rfl
theorem im_X9_changes : Cond.instanceMethod yX9_changes ∈ wsL_law := tb_3 158 rfl rfl
theorem se_X9_changes : Cond.selects RX9 yX9_changes yX9_changes ∈ wsL_law := tp_3 10 rfl
theorem co_X9_changes : Cond.code yX9_changes cX9_changes 6 (some .int) ∈ wsL_law := tb_3 159 rfl rfl
theorem mlL_27 : Cond.methodLink RL 27 yX8_putBack ∈ wsL_law := tb_1 232 rfl rfl
theorem im_X8_putBack : Cond.instanceMethod yX8_putBack ∈ wsL_law := tb_1 233 rfl rfl
theorem se_X8_putBack : Cond.selects RX8 yX8_putBack yX8_putBack ∈ wsL_law := tb_1 234 rfl rfl
theorem co_X8_putBack : Cond.code yX8_putBack cX8_putBack 3 (some .int) ∈ wsL_law := tb_1 235 rfl rfl
theorem mlL_30 : Cond.methodLink RL 30 yX9_putBack ∈ wsL_law := tb_3 160 rfl rfl
theorem im_X9_putBack : Cond.instanceMethod yX9_putBack ∈ wsL_law := tb_3 161 rfl rfl
theorem se_X9_putBack : Cond.selects RX9 yX9_putBack yX9_putBack ∈ wsL_law := tb_3 162 rfl rfl
theorem co_X9_putBack : Cond.code yX9_putBack cX9_putBack 3 (some .int) ∈ wsL_law := tb_3 163 rfl rfl
theorem mlX9_157 : Cond.methodLink RX9 157 yX9_tryPutBack ∈ wsL_law := tb_3 164 rfl rfl
theorem im_X9_tryPutBack : Cond.instanceMethod yX9_tryPutBack ∈ wsL_law := tb_3 166 rfl rfl
theorem se_X9_tryPutBack : Cond.selects RX9 yX9_tryPutBack yX9_tryPutBack ∈ wsL_law := tp_3 11 rfl
theorem co_X9_tryPutBack : Cond.code yX9_tryPutBack cX9_tryPutBack 5 (some .int) ∈ wsL_law := tb_3 167 rfl rfl
theorem mlL_31 : Cond.methodLink RL 31 yX8_recall ∈ wsL_law := tb_1 236 rfl rfl
theorem im_X8_recall : Cond.instanceMethod yX8_recall ∈ wsL_law := tb_1 237 rfl rfl
theorem se_X8_recall : Cond.selects RX8 yX8_recall yX8_recall ∈ wsL_law := tb_1 238 rfl rfl
theorem co_X8_recall : Cond.code yX8_recall cX8_recall 2 (some .int) ∈ wsL_law := tb_1 239 rfl rfl
theorem mlL_35 : Cond.methodLink RL 35 yX9_recall ∈ wsL_law := tb_3 168 rfl rfl
theorem im_X9_recall : Cond.instanceMethod yX9_recall ∈ wsL_law := tb_3 169 rfl rfl
theorem se_X9_recall : Cond.selects RX9 yX9_recall yX9_recall ∈ wsL_law := tb_3 170 rfl rfl
theorem co_X9_recall : Cond.code yX9_recall cX9_recall 2 (some .int) ∈ wsL_law := tb_3 171 rfl rfl
theorem mlX9_160 : Cond.methodLink RX9 160 yX9_tryRecall ∈ wsL_law := tb_3 172 rfl rfl
theorem im_X9_tryRecall : Cond.instanceMethod yX9_tryRecall ∈ wsL_law := tb_3 174 rfl rfl
theorem se_X9_tryRecall : Cond.selects RX9 yX9_tryRecall yX9_tryRecall ∈ wsL_law := tp_3 12 rfl
theorem co_X9_tryRecall : Cond.code yX9_tryRecall cX9_tryRecall 4 (some .int) ∈ wsL_law := tb_3 175 rfl rfl
theorem mlL_36 : Cond.methodLink RL 36 yX8_ofNote ∈ wsL_law := tb_2 0 rfl rfl
theorem im_X8_ofNote : Cond.instanceMethod yX8_ofNote ∈ wsL_law := tb_2 1 rfl rfl
theorem se_X8_ofNote : Cond.selects RX8 yX8_ofNote yX8_ofNote ∈ wsL_law := tb_2 2 rfl rfl
theorem co_X8_ofNote : Cond.code yX8_ofNote cX8_ofNote 5 (some .int) ∈ wsL_law := tb_2 3 rfl rfl
theorem mlX8_119 : Cond.methodLink RX8 119 yX8_isNote ∈ wsL_law := tb_2 4 rfl rfl
theorem mlX8_123 : Cond.methodLink RX8 123 yX3_called ∈ wsL_law := tb_2 5 rfl rfl
theorem mlX8_138 : Cond.methodLink RX8 138 yJ6_bitCount_0f7a4 ∈ wsL_law := tb_2 6 rfl rfl
theorem mlX8_143 : Cond.methodLink RX8 143 yX3_valueToRead ∈ wsL_law := tb_2 7 rfl rfl
theorem im_X3_valueToRead : Cond.instanceMethod yX3_valueToRead ∈ wsL_law := tb_2 8 rfl rfl
theorem se_X3_valueToRead : Cond.selects RX3 yX3_valueToRead yX3_valueToRead ∈ wsL_law := tb_2 9 rfl rfl
theorem co_X3_valueToRead : Cond.code yX3_valueToRead cX3_valueToRead 3 (some .int) ∈ wsL_law := tb_2 10 rfl rfl
theorem mlL_39 : Cond.methodLink RL 39 yX9_ofNote ∈ wsL_law := tb_3 184 rfl rfl
theorem im_X9_ofNote : Cond.instanceMethod yX9_ofNote ∈ wsL_law := tb_3 185 rfl rfl
theorem se_X9_ofNote : Cond.selects RX9 yX9_ofNote yX9_ofNote ∈ wsL_law := tb_3 186 rfl rfl
theorem co_X9_ofNote : Cond.code yX9_ofNote cX9_ofNote 3 (some .int) ∈ wsL_law := tb_3 187 rfl rfl
theorem mlX9_167 : Cond.methodLink RX9 167 yX9_holders ∈ wsL_law := tb_3 188 rfl rfl
theorem im_X9_holders : Cond.instanceMethod yX9_holders ∈ wsL_law := tb_3 190 rfl rfl
theorem se_X9_holders : Cond.selects RX9 yX9_holders yX9_holders ∈ wsL_law := tp_3 14 rfl
theorem co_X9_holders : Cond.code yX9_holders cX9_holders 4 (some .int) ∈ wsL_law := tb_3 191 rfl rfl
theorem mlX9_170 : Cond.methodLink RX9 170 yX9_valueNow ∈ wsL_law := tb_3 192 rfl rfl
theorem im_X9_valueNow : Cond.instanceMethod yX9_valueNow ∈ wsL_law := tb_3 194 rfl rfl
theorem se_X9_valueNow : Cond.selects RX9 yX9_valueNow yX9_valueNow ∈ wsL_law := tp_3 15 rfl
theorem co_X9_valueNow : Cond.code yX9_valueNow cX9_valueNow 5 (some .int) ∈ wsL_law := tb_3 195 rfl rfl
theorem mlL_40 : Cond.methodLink RL 40 yX8_onShelf ∈ wsL_law := tb_2 11 rfl rfl
theorem im_X8_onShelf : Cond.instanceMethod yX8_onShelf ∈ wsL_law := tb_2 12 rfl rfl
theorem se_X8_onShelf : Cond.selects RX8 yX8_onShelf yX8_onShelf ∈ wsL_law := tb_2 13 rfl rfl
theorem co_X8_onShelf : Cond.code yX8_onShelf cX8_onShelf 4 (some .int) ∈ wsL_law := tb_2 14 rfl rfl
theorem mlX8_152 : Cond.methodLink RX8 152 yX8_isReader ∈ wsL_law := tb_2 15 rfl rfl
theorem mlX8_158 : Cond.methodLink RX8 158 yX7_noteAt ∈ wsL_law := tb_2 16 rfl rfl
theorem mlX8_161 : Cond.methodLink RX8 161 yX7_valueAt ∈ wsL_law := tb_2 17 rfl rfl
theorem mlX8_164 : Cond.methodLink RX8 164 yX7_isChangedAt ∈ wsL_law := tb_2 18 rfl rfl
theorem mlL_43 : Cond.methodLink RL 43 yX9_onShelf ∈ wsL_law := tb_3 196 rfl rfl
theorem im_X9_onShelf : Cond.instanceMethod yX9_onShelf ∈ wsL_law := tb_3 197 rfl rfl
theorem se_X9_onShelf : Cond.selects RX9 yX9_onShelf yX9_onShelf ∈ wsL_law := tb_3 198 rfl rfl
theorem co_X9_onShelf : Cond.code yX9_onShelf cX9_onShelf 4 (some .int) ∈ wsL_law := tb_3 199 rfl rfl
theorem mlL_44 : Cond.methodLink RL 44 yX8_ofReader ∈ wsL_law := tb_2 19 rfl rfl
theorem im_X8_ofReader : Cond.instanceMethod yX8_ofReader ∈ wsL_law := tb_2 20 rfl rfl
theorem se_X8_ofReader : Cond.selects RX8 yX8_ofReader yX8_ofReader ∈ wsL_law := tb_2 21 rfl rfl
theorem co_X8_ofReader : Cond.code yX8_ofReader cX8_ofReader 3 (some .int) ∈ wsL_law := tb_2 22 rfl rfl
theorem mlX8_167 : Cond.methodLink RX8 167 yX8_groupOf ∈ wsL_law := tb_2 23 rfl rfl
theorem mlX8_182 : Cond.methodLink RX8 182 yX3_notesThatCall ∈ wsL_law := tb_2 24 rfl rfl
theorem im_X3_notesThatCall : Cond.instanceMethod yX3_notesThatCall ∈ wsL_law := tb_2 25 rfl rfl
theorem se_X3_notesThatCall : Cond.selects RX3 yX3_notesThatCall yX3_notesThatCall ∈ wsL_law := tb_2 26 rfl rfl
theorem co_X3_notesThatCall : Cond.code yX3_notesThatCall cX3_notesThatCall 4 (some .int) ∈ wsL_law := tb_2 27 rfl rfl
theorem mlL_47 : Cond.methodLink RL 47 yX9_ofReader ∈ wsL_law := tb_3 200 rfl rfl
theorem im_X9_ofReader : Cond.instanceMethod yX9_ofReader ∈ wsL_law := tb_3 201 rfl rfl
theorem se_X9_ofReader : Cond.selects RX9 yX9_ofReader yX9_ofReader ∈ wsL_law := tb_3 202 rfl rfl
theorem co_X9_ofReader : Cond.code yX9_ofReader cX9_ofReader 3 (some .int) ∈ wsL_law := tb_3 203 rfl rfl
theorem mlX9_173 : Cond.methodLink RX9 173 yX9_callers ∈ wsL_law := tb_3 204 rfl rfl
theorem im_X9_callers : Cond.instanceMethod yX9_callers ∈ wsL_law := tb_3 206 rfl rfl
theorem se_X9_callers : Cond.selects RX9 yX9_callers yX9_callers ∈ wsL_law := tp_4 0 rfl
theorem co_X9_callers : Cond.code yX9_callers cX9_callers 4 (some .int) ∈ wsL_law := tb_3 207 rfl rfl
theorem mlL_48 : Cond.methodLink RL 48 yX8_count ∈ wsL_law := tb_2 28 rfl rfl
theorem im_X8_count : Cond.instanceMethod yX8_count ∈ wsL_law := tb_2 29 rfl rfl
theorem se_X8_count : Cond.selects RX8 yX8_count yX8_count ∈ wsL_law := tb_2 30 rfl rfl
theorem co_X8_count : Cond.code yX8_count cX8_count 2 (some .int) ∈ wsL_law := tb_2 31 rfl rfl
theorem mlX8_188 : Cond.methodLink RX8 188 yX7_howMany ∈ wsL_law := tb_2 32 rfl rfl
theorem im_X7_howMany : Cond.instanceMethod yX7_howMany ∈ wsL_law := tb_2 33 rfl rfl
theorem se_X7_howMany : Cond.selects RX7 yX7_howMany yX7_howMany ∈ wsL_law := tb_2 34 rfl rfl
theorem co_X7_howMany : Cond.code yX7_howMany cX7_howMany 3 (some .int) ∈ wsL_law := tb_2 35 rfl rfl
theorem mlX8_191 : Cond.methodLink RX8 191 yX7_howManyChanged ∈ wsL_law := tb_2 36 rfl rfl
theorem im_X7_howManyChanged : Cond.instanceMethod yX7_howManyChanged ∈ wsL_law := tb_2 37 rfl rfl
theorem se_X7_howManyChanged : Cond.selects RX7 yX7_howManyChanged yX7_howManyChanged ∈ wsL_law := tb_2 38 rfl rfl
theorem co_X7_howManyChanged : Cond.code yX7_howManyChanged cX7_howManyChanged 5 (some .int) ∈ wsL_law := tb_2 39 rfl rfl
theorem mlX7_47 : Cond.methodLink RX7 47 yX7_isChangedAt ∈ wsL_law := tb_2 40 rfl rfl
theorem mlX8_194 : Cond.methodLink RX8 194 yX1_howManyGrouped ∈ wsL_law := tb_2 41 rfl rfl
theorem im_X1_howManyGrouped : Cond.instanceMethod yX1_howManyGrouped ∈ wsL_law := tb_2 42 rfl rfl
theorem se_X1_howManyGrouped : Cond.selects RX1 yX1_howManyGrouped yX1_howManyGrouped ∈ wsL_law := tb_2 43 rfl rfl
theorem co_X1_howManyGrouped : Cond.code yX1_howManyGrouped cX1_howManyGrouped 3 (some .int) ∈ wsL_law := tb_2 44 rfl rfl
theorem mlL_51 : Cond.methodLink RL 51 yX9_count ∈ wsL_law := tb_3 208 rfl rfl
theorem im_X9_count : Cond.instanceMethod yX9_count ∈ wsL_law := tb_3 209 rfl rfl
theorem se_X9_count : Cond.selects RX9 yX9_count yX9_count ∈ wsL_law := tb_3 210 rfl rfl
theorem co_X9_count : Cond.code yX9_count cX9_count 2 (some .int) ∈ wsL_law := tb_3 211 rfl rfl
theorem flX9_180 : Cond.fieldLink RX9 180 "ShoutGroupsModel" "padMany" "I" ∈ wsL_law := tb_2 225 rfl rfl
theorem mlX9_176 : Cond.methodLink RX9 176 yX9_copies ∈ wsL_law := tb_3 212 rfl rfl
theorem im_X9_copies : Cond.instanceMethod yX9_copies ∈ wsL_law := tb_3 214 rfl rfl
theorem se_X9_copies : Cond.selects RX9 yX9_copies yX9_copies ∈ wsL_law := tp_4 1 rfl
theorem co_X9_copies : Cond.code yX9_copies cX9_copies 5 (some .int) ∈ wsL_law := tb_3 215 rfl rfl
theorem mlL_52 : Cond.methodLink RL 52 yX8_costOfReading ∈ wsL_law := tb_2 45 rfl rfl
theorem im_X8_costOfReading : Cond.instanceMethod yX8_costOfReading ∈ wsL_law := tb_2 46 rfl rfl
theorem se_X8_costOfReading : Cond.selects RX8 yX8_costOfReading yX8_costOfReading ∈ wsL_law := tb_2 47 rfl rfl
theorem co_X8_costOfReading : Cond.code yX8_costOfReading cX8_costOfReading 3 (some .int) ∈ wsL_law := tb_2 48 rfl rfl
theorem mlX8_202 : Cond.methodLink RX8 202 yX3_messagesToRead ∈ wsL_law := tb_2 49 rfl rfl
theorem im_X3_messagesToRead : Cond.instanceMethod yX3_messagesToRead ∈ wsL_law := tb_2 50 rfl rfl
theorem se_X3_messagesToRead : Cond.selects RX3 yX3_messagesToRead yX3_messagesToRead ∈ wsL_law := tb_2 51 rfl rfl
theorem co_X3_messagesToRead : Cond.code yX3_messagesToRead cX3_messagesToRead 4 (some .int) ∈ wsL_law := tb_2 52 rfl rfl
theorem mlX3_179 : Cond.methodLink RX3 179 yX3_messagesToMakeRoom ∈ wsL_law := tb_2 53 rfl rfl
theorem im_X3_messagesToMakeRoom : Cond.instanceMethod yX3_messagesToMakeRoom ∈ wsL_law := tb_2 55 rfl rfl
theorem se_X3_messagesToMakeRoom : Cond.selects RX3 yX3_messagesToMakeRoom yX3_messagesToMakeRoom ∈ wsL_law := tp_1 7 rfl
theorem co_X3_messagesToMakeRoom : Cond.code yX3_messagesToMakeRoom cX3_messagesToMakeRoom 5 (some .int) ∈ wsL_law := tb_2 56 rfl rfl
theorem mlL_55 : Cond.methodLink RL 55 yX9_costOfReading ∈ wsL_law := tb_3 216 rfl rfl
theorem im_X9_costOfReading : Cond.instanceMethod yX9_costOfReading ∈ wsL_law := tb_3 217 rfl rfl
theorem se_X9_costOfReading : Cond.selects RX9 yX9_costOfReading yX9_costOfReading ∈ wsL_law := tb_3 218 rfl rfl
theorem co_X9_costOfReading : Cond.code yX9_costOfReading cX9_costOfReading 5 (some .int) ∈ wsL_law := tb_3 219 rfl rfl
theorem mlX9_183 : Cond.methodLink RX9 183 yX9_layAside ∈ wsL_law := tb_3 220 rfl rfl
theorem im_X9_layAside : Cond.instanceMethod yX9_layAside ∈ wsL_law := tb_3 222 rfl rfl
theorem se_X9_layAside : Cond.selects RX9 yX9_layAside yX9_layAside ∈ wsL_law := tp_4 2 rfl
theorem co_X9_layAside : Cond.code yX9_layAside cX9_layAside 2 none ∈ wsL_law := tb_3 223 rfl rfl
theorem mlX9_186 : Cond.methodLink RX9 186 yX9_layBack ∈ wsL_law := tb_3 224 rfl rfl
theorem im_X9_layBack : Cond.instanceMethod yX9_layBack ∈ wsL_law := tb_3 226 rfl rfl
theorem se_X9_layBack : Cond.selects RX9 yX9_layBack yX9_layBack ∈ wsL_law := tp_4 3 rfl
theorem co_X9_layBack : Cond.code yX9_layBack cX9_layBack 2 none ∈ wsL_law := tb_3 227 rfl rfl
theorem mlL_56 : Cond.methodLink RL 56 yX8_costOfChange ∈ wsL_law := tb_2 57 rfl rfl
theorem im_X8_costOfChange : Cond.instanceMethod yX8_costOfChange ∈ wsL_law := tb_2 58 rfl rfl
theorem se_X8_costOfChange : Cond.selects RX8 yX8_costOfChange yX8_costOfChange ∈ wsL_law := tb_2 59 rfl rfl
theorem co_X8_costOfChange : Cond.code yX8_costOfChange cX8_costOfChange 4 (some .int) ∈ wsL_law := tb_2 60 rfl rfl
theorem mlX8_205 : Cond.methodLink RX8 205 yX3_messagesToChange ∈ wsL_law := tb_2 61 rfl rfl
theorem im_X3_messagesToChange : Cond.instanceMethod yX3_messagesToChange ∈ wsL_law := tb_2 62 rfl rfl
theorem se_X3_messagesToChange : Cond.selects RX3 yX3_messagesToChange yX3_messagesToChange ∈ wsL_law := tb_2 63 rfl rfl
theorem co_X3_messagesToChange : Cond.code yX3_messagesToChange cX3_messagesToChange 6 (some .int) ∈ wsL_law := tb_2 64 rfl rfl
theorem mlX3_185 : Cond.methodLink RX3 185 yJ6_bitCount_0f7a4 ∈ wsL_law := tb_2 65 rfl rfl
theorem mlX8_208 : Cond.methodLink RX8 208 yX3_wastedToChange ∈ wsL_law := tb_2 66 rfl rfl
theorem im_X3_wastedToChange : Cond.instanceMethod yX3_wastedToChange ∈ wsL_law := tb_2 67 rfl rfl
theorem se_X3_wastedToChange : Cond.selects RX3 yX3_wastedToChange yX3_wastedToChange ∈ wsL_law := tb_2 68 rfl rfl
theorem co_X3_wastedToChange : Cond.code yX3_wastedToChange cX3_wastedToChange 3 (some .int) ∈ wsL_law := tb_2 69 rfl rfl
theorem mlL_59 : Cond.methodLink RL 59 yX9_costOfChange ∈ wsL_law := tb_3 228 rfl rfl
theorem im_X9_costOfChange : Cond.instanceMethod yX9_costOfChange ∈ wsL_law := tb_3 229 rfl rfl
theorem se_X9_costOfChange : Cond.selects RX9 yX9_costOfChange yX9_costOfChange ∈ wsL_law := tb_3 230 rfl rfl
theorem co_X9_costOfChange : Cond.code yX9_costOfChange cX9_costOfChange 4 (some .int) ∈ wsL_law := tb_3 231 rfl rfl
theorem mlX9_189 : Cond.methodLink RX9 189 yX9_cost ∈ wsL_law := tb_3 232 rfl rfl
theorem im_X9_cost : Cond.instanceMethod yX9_cost ∈ wsL_law := tb_3 234 rfl rfl
theorem se_X9_cost : Cond.selects RX9 yX9_cost yX9_cost ∈ wsL_law := tp_4 4 rfl
theorem co_X9_cost : Cond.code yX9_cost cX9_cost 6 (some .int) ∈ wsL_law := tb_3 235 rfl rfl
theorem mlL_60 : Cond.methodLink RL 60 yX8_cheapest ∈ wsL_law := tb_2 70 rfl rfl
theorem im_X8_cheapest : Cond.instanceMethod yX8_cheapest ∈ wsL_law := tb_2 71 rfl rfl
theorem se_X8_cheapest : Cond.selects RX8 yX8_cheapest yX8_cheapest ∈ wsL_law := tb_2 72 rfl rfl
theorem co_X8_cheapest : Cond.code yX8_cheapest cX8_cheapest 6 (some .int) ∈ wsL_law := tb_2 73 rfl rfl
theorem mlL_63 : Cond.methodLink RL 63 yX9_cheapest ∈ wsL_law := tb_3 236 rfl rfl
theorem im_X9_cheapest : Cond.instanceMethod yX9_cheapest ∈ wsL_law := tb_3 237 rfl rfl
theorem se_X9_cheapest : Cond.selects RX9 yX9_cheapest yX9_cheapest ∈ wsL_law := tb_3 238 rfl rfl
theorem co_X9_cheapest : Cond.code yX9_cheapest cX9_cheapest 6 (some .int) ∈ wsL_law := tb_3 239 rfl rfl
theorem mlL_64 : Cond.methodLink RL 64 yX8_loudest ∈ wsL_law := tb_2 74 rfl rfl
theorem im_X8_loudest : Cond.instanceMethod yX8_loudest ∈ wsL_law := tb_2 75 rfl rfl
theorem se_X8_loudest : Cond.selects RX8 yX8_loudest yX8_loudest ∈ wsL_law := tb_2 76 rfl rfl
theorem co_X8_loudest : Cond.code yX8_loudest cX8_loudest 6 (some .int) ∈ wsL_law := tb_2 77 rfl rfl
theorem mlX8_211 : Cond.methodLink RX8 211 yX3_fewestWasted ∈ wsL_law := tb_2 78 rfl rfl
theorem im_X3_fewestWasted : Cond.instanceMethod yX3_fewestWasted ∈ wsL_law := tb_2 79 rfl rfl
theorem se_X3_fewestWasted : Cond.selects RX3 yX3_fewestWasted yX3_fewestWasted ∈ wsL_law := tb_2 80 rfl rfl
theorem co_X3_fewestWasted : Cond.code yX3_fewestWasted cX3_fewestWasted 4 (some .int) ∈ wsL_law := tb_2 81 rfl rfl
theorem mlL_67 : Cond.methodLink RL 67 yX9_loudest ∈ wsL_law := tb_4 0 rfl rfl
theorem im_X9_loudest : Cond.instanceMethod yX9_loudest ∈ wsL_law := tb_4 1 rfl rfl
theorem se_X9_loudest : Cond.selects RX9 yX9_loudest yX9_loudest ∈ wsL_law := tb_4 2 rfl rfl
theorem co_X9_loudest : Cond.code yX9_loudest cX9_loudest 6 (some .int) ∈ wsL_law := tb_4 3 rfl rfl
theorem mlX9_192 : Cond.methodLink RX9 192 yX9_fewestWasted ∈ wsL_law := tb_4 4 rfl rfl
theorem im_X9_fewestWasted : Cond.instanceMethod yX9_fewestWasted ∈ wsL_law := tb_4 6 rfl rfl
theorem se_X9_fewestWasted : Cond.selects RX9 yX9_fewestWasted yX9_fewestWasted ∈ wsL_law := tp_4 5 rfl
theorem co_X9_fewestWasted : Cond.code yX9_fewestWasted cX9_fewestWasted 5 (some .int) ∈ wsL_law := tb_4 7 rfl rfl
theorem mlL_68 : Cond.methodLink RL 68 yX8_accountWith ∈ wsL_law := tb_2 82 rfl rfl
theorem im_X8_accountWith : Cond.instanceMethod yX8_accountWith ∈ wsL_law := tb_2 83 rfl rfl
theorem se_X8_accountWith : Cond.selects RX8 yX8_accountWith yX8_accountWith ∈ wsL_law := tb_2 84 rfl rfl
theorem co_X8_accountWith : Cond.code yX8_accountWith cX8_accountWith 3 (some .int) ∈ wsL_law := tb_2 85 rfl rfl
theorem mlX8_214 : Cond.methodLink RX8 214 yX3_messagesOfAccount ∈ wsL_law := tb_2 86 rfl rfl
theorem im_X3_messagesOfAccount : Cond.instanceMethod yX3_messagesOfAccount ∈ wsL_law := tb_2 87 rfl rfl
theorem se_X3_messagesOfAccount : Cond.selects RX3 yX3_messagesOfAccount yX3_messagesOfAccount ∈ wsL_law := tb_2 88 rfl rfl
theorem co_X3_messagesOfAccount : Cond.code yX3_messagesOfAccount cX3_messagesOfAccount 8 (some .int) ∈ wsL_law := tb_2 89 rfl rfl
theorem mlX3_190 : Cond.methodLink RX3 190 yX1_clear ∈ wsL_law := tb_2 90 rfl rfl
theorem im_X1_clear : Cond.instanceMethod yX1_clear ∈ wsL_law := tb_2 91 rfl rfl
theorem se_X1_clear : Cond.selects RX1 yX1_clear yX1_clear ∈ wsL_law := tb_2 92 rfl rfl
theorem co_X1_clear : Cond.code yX1_clear cX1_clear 1 none ∈ wsL_law := tb_2 93 rfl rfl
theorem mlX1_54 : Cond.methodLink RX1 54 yX6_clear ∈ wsL_law := tb_2 94 rfl rfl
theorem im_X6_clear : Cond.instanceMethod yX6_clear ∈ wsL_law := tb_2 95 rfl rfl
theorem se_X6_clear : Cond.selects RX6 yX6_clear yX6_clear ∈ wsL_law := tb_2 96 rfl rfl
theorem co_X6_clear : Cond.code yX6_clear cX6_clear 1 none ∈ wsL_law := tb_2 97 rfl rfl
theorem mlX6_13 : Cond.methodLink RX6 13 yJ7_fill_53178 ∈ wsL_law := tb_2 98 rfl rfl
theorem st_J7_fill_53178 : Cond.static yJ7_fill_53178 ∈ wsL_law := tb_2 99 rfl rfl
theorem ini_J7 : Cond.initialized RJ7 ∈ wsL_law := tb_0 14 rfl rfl
theorem co_J7_fill_53178 : Cond.code yJ7_fill_53178 cJ7_fill_53178 4 none ∈ wsL_law := tb_2 100 rfl rfl
theorem mlX3_193 : Cond.methodLink RX3 193 yX7_clear ∈ wsL_law := tb_2 101 rfl rfl
theorem im_X7_clear : Cond.instanceMethod yX7_clear ∈ wsL_law := tb_2 102 rfl rfl
theorem se_X7_clear : Cond.selects RX7 yX7_clear yX7_clear ∈ wsL_law := tb_2 103 rfl rfl
theorem co_X7_clear : Cond.code yX7_clear cX7_clear 1 none ∈ wsL_law := tb_2 104 rfl rfl
theorem mlX7_50 : Cond.methodLink RX7 50 yX6_clear ∈ wsL_law := tb_2 105 rfl rfl
theorem mlX3_194 : Cond.methodLink RX3 194 yX6_clear ∈ wsL_law := tb_2 106 rfl rfl
theorem mlX3_199 : Cond.methodLink RX3 199 yX0_cellOf ∈ wsL_law := tb_2 107 rfl rfl
theorem mlX3_209 : Cond.methodLink RX3 209 yX3_rewrite ∈ wsL_law := tb_2 108 rfl rfl
theorem mlX3_213 : Cond.methodLink RX3 213 yX3_lend ∈ wsL_law := tb_2 109 rfl rfl
theorem mlL_71 : Cond.methodLink RL 71 yX9_accountWith ∈ wsL_law := tb_4 8 rfl rfl
theorem im_X9_accountWith : Cond.instanceMethod yX9_accountWith ∈ wsL_law := tb_4 9 rfl rfl
theorem se_X9_accountWith : Cond.selects RX9 yX9_accountWith yX9_accountWith ∈ wsL_law := tb_4 10 rfl rfl
theorem co_X9_accountWith : Cond.code yX9_accountWith cX9_accountWith 3 (some .int) ∈ wsL_law := tb_4 11 rfl rfl
theorem mlX9_195 : Cond.methodLink RX9 195 yX9_messagesWith ∈ wsL_law := tb_4 12 rfl rfl
theorem im_X9_messagesWith : Cond.instanceMethod yX9_messagesWith ∈ wsL_law := tb_4 14 rfl rfl
theorem se_X9_messagesWith : Cond.selects RX9 yX9_messagesWith yX9_messagesWith ∈ wsL_law := tp_4 6 rfl
theorem co_X9_messagesWith : Cond.code yX9_messagesWith cX9_messagesWith 7 (some .int) ∈ wsL_law := tb_4 15 rfl rfl
theorem mlL_72 : Cond.methodLink RL 72 yX8_best ∈ wsL_law := tb_2 110 rfl rfl
theorem im_X8_best : Cond.instanceMethod yX8_best ∈ wsL_law := tb_2 111 rfl rfl
theorem se_X8_best : Cond.selects RX8 yX8_best yX8_best ∈ wsL_law := tb_2 112 rfl rfl
theorem co_X8_best : Cond.code yX8_best cX8_best 8 (some .int) ∈ wsL_law := tb_2 113 rfl rfl
theorem mlL_75 : Cond.methodLink RL 75 yX9_best ∈ wsL_law := tb_4 16 rfl rfl
theorem im_X9_best : Cond.instanceMethod yX9_best ∈ wsL_law := tb_4 17 rfl rfl
theorem se_X9_best : Cond.selects RX9 yX9_best yX9_best ∈ wsL_law := tb_4 18 rfl rfl
theorem co_X9_best : Cond.code yX9_best cX9_best 8 (some .int) ∈ wsL_law := tb_4 19 rfl rfl
theorem mlL_76 : Cond.methodLink RL 76 yX8_account ∈ wsL_law := tb_2 114 rfl rfl
theorem im_X8_account : Cond.instanceMethod yX8_account ∈ wsL_law := tb_2 115 rfl rfl
theorem se_X8_account : Cond.selects RX8 yX8_account yX8_account ∈ wsL_law := tb_2 116 rfl rfl
theorem co_X8_account : Cond.code yX8_account cX8_account 2 (some .int) ∈ wsL_law := tb_2 117 rfl rfl
theorem mlX8_226 : Cond.methodLink RX8 226 yX0_clear ∈ wsL_law := tb_2 118 rfl rfl
theorem im_X0_clear : Cond.instanceMethod yX0_clear ∈ wsL_law := tb_2 119 rfl rfl
theorem se_X0_clear : Cond.selects RX0 yX0_clear yX0_clear ∈ wsL_law := tb_2 120 rfl rfl
theorem co_X0_clear : Cond.code yX0_clear cX0_clear 1 none ∈ wsL_law := tb_2 121 rfl rfl
theorem mlL_80 : Cond.methodLink RL 80 yX9_account ∈ wsL_law := tb_4 20 rfl rfl
theorem im_X9_account : Cond.instanceMethod yX9_account ∈ wsL_law := tb_4 21 rfl rfl
theorem se_X9_account : Cond.selects RX9 yX9_account yX9_account ∈ wsL_law := tb_4 22 rfl rfl
theorem co_X9_account : Cond.code yX9_account cX9_account 2 (some .int) ∈ wsL_law := tb_4 23 rfl rfl
theorem mlL_83 : Cond.methodLink RL 83 yX8_put ∈ wsL_law := tb_2 122 rfl rfl
theorem im_X8_put : Cond.instanceMethod yX8_put ∈ wsL_law := tb_2 123 rfl rfl
theorem se_X8_put : Cond.selects RX8 yX8_put yX8_put ∈ wsL_law := tb_2 124 rfl rfl
theorem co_X8_put : Cond.code yX8_put cX8_put 5 (some .int) ∈ wsL_law := tb_2 125 rfl rfl
theorem mlX8_229 : Cond.methodLink RX8 229 yX8_howManyCharacters ∈ wsL_law := tb_2 126 rfl rfl
theorem st_X8_howManyCharacters : Cond.static yX8_howManyCharacters ∈ wsL_law := tb_2 127 rfl rfl
theorem co_X8_howManyCharacters : Cond.code yX8_howManyCharacters cX8_howManyCharacters 4 (some .int) ∈ wsL_law := tb_2 128 rfl rfl
theorem mlX8_233 : Cond.methodLink RX8 233 yX8_codeAt ∈ wsL_law := tb_2 129 rfl rfl
theorem st_X8_codeAt : Cond.static yX8_codeAt ∈ wsL_law := tb_2 130 rfl rfl
theorem co_X8_codeAt : Cond.code yX8_codeAt cX8_codeAt 3 (some .int) ∈ wsL_law := tb_2 131 rfl rfl
theorem klX8_262 : Cond.constantLong RX8 262 (255) ∈ wsL_law := tb_2 132 rfl rfl
theorem mlX8_237 : Cond.methodLink RX8 237 yX5_append ∈ wsL_law := tb_2 133 rfl rfl
theorem im_X5_append : Cond.instanceMethod yX5_append ∈ wsL_law := tb_2 134 rfl rfl
theorem se_X5_append : Cond.selects RX5 yX5_append yX5_append ∈ wsL_law := tb_2 135 rfl rfl
theorem co_X5_append : Cond.code yX5_append cX5_append 2 none ∈ wsL_law := tb_2 136 rfl rfl
theorem flX5_20 : Cond.fieldLink RX5 20 "ShoutGroups$Pad" "length" "I" ∈ wsL_law := tb_0 199 rfl rfl
theorem mlX5_28 : Cond.methodLink RX5 28 yX6_write ∈ wsL_law := tb_2 137 rfl rfl
theorem mlL_87 : Cond.methodLink RL 87 yX9_put ∈ wsL_law := tb_4 24 rfl rfl
theorem im_X9_put : Cond.instanceMethod yX9_put ∈ wsL_law := tb_4 25 rfl rfl
theorem se_X9_put : Cond.selects RX9 yX9_put yX9_put ∈ wsL_law := tb_4 26 rfl rfl
theorem co_X9_put : Cond.code yX9_put cX9_put 7 (some .int) ∈ wsL_law := tb_4 27 rfl rfl
theorem klX9_198 : Cond.constantLong RX9 198 (255) ∈ wsL_law := tb_4 28 rfl rfl
theorem mlL_88 : Cond.methodLink RL 88 yX8_wipe ∈ wsL_law := tb_2 138 rfl rfl
theorem im_X8_wipe : Cond.instanceMethod yX8_wipe ∈ wsL_law := tb_2 139 rfl rfl
theorem se_X8_wipe : Cond.selects RX8 yX8_wipe yX8_wipe ∈ wsL_law := tb_2 140 rfl rfl
theorem co_X8_wipe : Cond.code yX8_wipe cX8_wipe 2 (some .int) ∈ wsL_law := tb_2 141 rfl rfl
theorem mlL_91 : Cond.methodLink RL 91 yX9_wipe ∈ wsL_law := tb_4 29 rfl rfl
theorem im_X9_wipe : Cond.instanceMethod yX9_wipe ∈ wsL_law := tb_4 30 rfl rfl
theorem se_X9_wipe : Cond.selects RX9 yX9_wipe yX9_wipe ∈ wsL_law := tb_4 31 rfl rfl
theorem co_X9_wipe : Cond.code yX9_wipe cX9_wipe 2 (some .int) ∈ wsL_law := tb_4 32 rfl rfl
theorem mlL_92 : Cond.methodLink RL 92 yX8_fault ∈ wsL_law := tb_2 142 rfl rfl
theorem im_X8_fault : Cond.instanceMethod yX8_fault ∈ wsL_law := tb_2 143 rfl rfl
theorem se_X8_fault : Cond.selects RX8 yX8_fault yX8_fault ∈ wsL_law := tb_2 144 rfl rfl
theorem co_X8_fault : Cond.code yX8_fault cX8_fault 1 (some .int) ∈ wsL_law := tb_2 145 rfl rfl
theorem mlX8_240 : Cond.methodLink RX8 240 yX4_findFault ∈ wsL_law := tb_2 146 rfl rfl
theorem im_X4_findFault : Cond.instanceMethod yX4_findFault ∈ wsL_law := tb_2 147 rfl rfl
theorem se_X4_findFault : Cond.selects RX4 yX4_findFault yX4_findFault ∈ wsL_law := tb_2 148 rfl rfl
theorem co_X4_findFault : Cond.code yX4_findFault cX4_findFault 2 (some .int) ∈ wsL_law := tb_2 149 rfl rfl
theorem flX4_15 : Cond.fieldLink RX4 15 "ShoutGroups$Orders" "place" "I" ∈ wsL_law := tb_0 214 rfl rfl
theorem mlX4_19 : Cond.methodLink RX4 19 yX4_takeNext ∈ wsL_law := tb_2 150 rfl rfl
theorem im_X4_takeNext : Cond.instanceMethod yX4_takeNext ∈ wsL_law := tb_2 151 rfl rfl
theorem se_X4_takeNext : Cond.selects RX4 yX4_takeNext yX4_takeNext ∈ wsL_law := tb_2 152 rfl rfl
theorem co_X4_takeNext : Cond.code yX4_takeNext cX4_takeNext 1 (some .boolean) ∈ wsL_law := tb_2 153 rfl rfl
theorem mlX4_28 : Cond.methodLink RX4 28 yX4_take ∈ wsL_law := tb_2 154 rfl rfl
theorem im_X4_take : Cond.instanceMethod yX4_take ∈ wsL_law := tb_2 156 rfl rfl
theorem se_X4_take : Cond.selects RX4 yX4_take yX4_take ∈ wsL_law := tp_1 8 rfl
theorem co_X4_take : Cond.code yX4_take cX4_take 2 (some .boolean) ∈ wsL_law := tb_2 157 rfl rfl
theorem mlX4_44 : Cond.methodLink RX4 44 yX5_codeAt ∈ wsL_law := tb_2 158 rfl rfl
theorem im_X5_codeAt : Cond.instanceMethod yX5_codeAt ∈ wsL_law := tb_2 159 rfl rfl
theorem se_X5_codeAt : Cond.selects RX5 yX5_codeAt yX5_codeAt ∈ wsL_law := tb_2 160 rfl rfl
theorem co_X5_codeAt : Cond.code yX5_codeAt cX5_codeAt 2 (some .int) ∈ wsL_law := tb_2 161 rfl rfl
theorem mlX5_24 : Cond.methodLink RX5 24 yX6_at ∈ wsL_law := tb_2 162 rfl rfl
theorem mlX4_32 : Cond.methodLink RX4 32 yX4_takeKind ∈ wsL_law := tb_2 163 rfl rfl
theorem im_X4_takeKind : Cond.instanceMethod yX4_takeKind ∈ wsL_law := tb_2 165 rfl rfl
theorem se_X4_takeKind : Cond.selects RX4 yX4_takeKind yX4_takeKind ∈ wsL_law := tp_1 9 rfl
theorem co_X4_takeKind : Cond.code yX4_takeKind cX4_takeKind 1 (some .boolean) ∈ wsL_law := tb_2 166 rfl rfl
theorem flX4_51 : Cond.fieldLink RX4 51 "ShoutGroups$Orders" "kind" "I" ∈ wsL_law := tb_0 217 rfl rfl
theorem mlX4_48 : Cond.methodLink RX4 48 yX4_kindOf ∈ wsL_law := tb_2 167 rfl rfl
theorem st_X4_kindOf : Cond.static yX4_kindOf ∈ wsL_law := tb_2 168 rfl rfl
theorem co_X4_kindOf : Cond.code yX4_kindOf cX4_kindOf 1 (some .int) ∈ wsL_law := tb_2 169 rfl rfl
theorem mlX4_35 : Cond.methodLink RX4 35 yX4_takeReader ∈ wsL_law := tb_2 170 rfl rfl
theorem im_X4_takeReader : Cond.instanceMethod yX4_takeReader ∈ wsL_law := tb_2 172 rfl rfl
theorem se_X4_takeReader : Cond.selects RX4 yX4_takeReader yX4_takeReader ∈ wsL_law := tp_1 10 rfl
theorem co_X4_takeReader : Cond.code yX4_takeReader cX4_takeReader 2 (some .boolean) ∈ wsL_law := tb_2 173 rfl rfl
theorem flX4_54 : Cond.fieldLink RX4 54 "ShoutGroups$Orders" "reader" "I" ∈ wsL_law := tb_0 219 rfl rfl
theorem flX4_60 : Cond.fieldLink RX4 60 "ShoutGroups$Orders" "number" "I" ∈ wsL_law := tb_0 216 rfl rfl
theorem mlX4_57 : Cond.methodLink RX4 57 yX4_takeNumber ∈ wsL_law := tb_2 174 rfl rfl
theorem im_X4_takeNumber : Cond.instanceMethod yX4_takeNumber ∈ wsL_law := tb_2 176 rfl rfl
theorem se_X4_takeNumber : Cond.selects RX4 yX4_takeNumber yX4_takeNumber ∈ wsL_law := tp_1 11 rfl
theorem co_X4_takeNumber : Cond.code yX4_takeNumber cX4_takeNumber 4 (some .boolean) ∈ wsL_law := tb_2 177 rfl rfl
theorem mlX4_69 : Cond.methodLink RX4 69 yX4_isDigit ∈ wsL_law := tb_2 178 rfl rfl
theorem st_X4_isDigit : Cond.static yX4_isDigit ∈ wsL_law := tb_2 179 rfl rfl
theorem co_X4_isDigit : Cond.code yX4_isDigit cX4_isDigit 1 (some .boolean) ∈ wsL_law := tb_2 180 rfl rfl
theorem mlX4_38 : Cond.methodLink RX4 38 yX4_takeNote ∈ wsL_law := tb_2 181 rfl rfl
theorem im_X4_takeNote : Cond.instanceMethod yX4_takeNote ∈ wsL_law := tb_2 183 rfl rfl
theorem se_X4_takeNote : Cond.selects RX4 yX4_takeNote yX4_takeNote ∈ wsL_law := tp_1 12 rfl
theorem co_X4_takeNote : Cond.code yX4_takeNote cX4_takeNote 2 (some .boolean) ∈ wsL_law := tb_2 184 rfl rfl
theorem flX4_63 : Cond.fieldLink RX4 63 "ShoutGroups$Orders" "note" "I" ∈ wsL_law := tb_0 221 rfl rfl
theorem mlX4_41 : Cond.methodLink RX4 41 yX4_takeValue ∈ wsL_law := tb_2 185 rfl rfl
theorem im_X4_takeValue : Cond.instanceMethod yX4_takeValue ∈ wsL_law := tb_2 187 rfl rfl
theorem se_X4_takeValue : Cond.selects RX4 yX4_takeValue yX4_takeValue ∈ wsL_law := tp_1 13 rfl
theorem co_X4_takeValue : Cond.code yX4_takeValue cX4_takeValue 2 (some .boolean) ∈ wsL_law := tb_2 188 rfl rfl
theorem flX4_66 : Cond.fieldLink RX4 66 "ShoutGroups$Orders" "value" "I" ∈ wsL_law := tb_0 223 rfl rfl
theorem mlL_95 : Cond.methodLink RL 95 yX9_fault ∈ wsL_law := tb_4 33 rfl rfl
theorem im_X9_fault : Cond.instanceMethod yX9_fault ∈ wsL_law := tb_4 34 rfl rfl
theorem se_X9_fault : Cond.selects RX9 yX9_fault yX9_fault ∈ wsL_law := tb_4 35 rfl rfl
theorem co_X9_fault : Cond.code yX9_fault cX9_fault 1 (some .int) ∈ wsL_law := tb_4 36 rfl rfl
theorem flX9_200 : Cond.fieldLink RX9 200 "ShoutGroupsModel" "spot" "I" ∈ wsL_law := tb_2 226 rfl rfl
theorem flX9_203 : Cond.fieldLink RX9 203 "ShoutGroupsModel" "isWrong" "Z" ∈ wsL_law := tb_2 227 rfl rfl
theorem flX9_211 : Cond.fieldLink RX9 211 "ShoutGroupsModel" "orders" "I" ∈ wsL_law := tb_2 228 rfl rfl
theorem mlX9_220 : Cond.methodLink RX9 220 yX9_takeOrder ∈ wsL_law := tb_4 37 rfl rfl
theorem im_X9_takeOrder : Cond.instanceMethod yX9_takeOrder ∈ wsL_law := tb_4 39 rfl rfl
theorem se_X9_takeOrder : Cond.selects RX9 yX9_takeOrder yX9_takeOrder ∈ wsL_law := tp_4 7 rfl
theorem co_X9_takeOrder : Cond.code yX9_takeOrder cX9_takeOrder 2 none ∈ wsL_law := tb_4 40 rfl rfl
theorem mlX9_207 : Cond.methodLink RX9 207 yX9_next ∈ wsL_law := tb_4 41 rfl rfl
theorem im_X9_next : Cond.instanceMethod yX9_next ∈ wsL_law := tb_4 43 rfl rfl
theorem se_X9_next : Cond.selects RX9 yX9_next yX9_next ∈ wsL_law := tp_4 8 rfl
theorem co_X9_next : Cond.code yX9_next cX9_next 1 (some .int) ∈ wsL_law := tb_4 44 rfl rfl
theorem mlX9_214 : Cond.methodLink RX9 214 yX9_takeNumber ∈ wsL_law := tb_4 45 rfl rfl
theorem im_X9_takeNumber : Cond.instanceMethod yX9_takeNumber ∈ wsL_law := tb_4 47 rfl rfl
theorem se_X9_takeNumber : Cond.selects RX9 yX9_takeNumber yX9_takeNumber ∈ wsL_law := tp_4 9 rfl
theorem co_X9_takeNumber : Cond.code yX9_takeNumber cX9_takeNumber 3 none ∈ wsL_law := tb_4 48 rfl rfl
theorem mlX9_217 : Cond.methodLink RX9 217 yX9_takeSign ∈ wsL_law := tb_4 49 rfl rfl
theorem im_X9_takeSign : Cond.instanceMethod yX9_takeSign ∈ wsL_law := tb_4 51 rfl rfl
theorem se_X9_takeSign : Cond.selects RX9 yX9_takeSign yX9_takeSign ∈ wsL_law := tp_4 10 rfl
theorem co_X9_takeSign : Cond.code yX9_takeSign cX9_takeSign 2 none ∈ wsL_law := tb_4 52 rfl rfl
theorem mlL_96 : Cond.methodLink RL 96 yX8_carryOut ∈ wsL_law := tb_2 189 rfl rfl
theorem im_X8_carryOut : Cond.instanceMethod yX8_carryOut ∈ wsL_law := tb_2 190 rfl rfl
theorem se_X8_carryOut : Cond.selects RX8 yX8_carryOut yX8_carryOut ∈ wsL_law := tb_2 191 rfl rfl
theorem co_X8_carryOut : Cond.code yX8_carryOut cX8_carryOut 2 (some .int) ∈ wsL_law := tb_2 192 rfl rfl
theorem mlX8_246 : Cond.methodLink RX8 246 yX4_takeNext ∈ wsL_law := tb_2 193 rfl rfl
theorem mlL_99 : Cond.methodLink RL 99 yX9_carryOut ∈ wsL_law := tb_4 53 rfl rfl
theorem im_X9_carryOut : Cond.instanceMethod yX9_carryOut ∈ wsL_law := tb_4 54 rfl rfl
theorem se_X9_carryOut : Cond.selects RX9 yX9_carryOut yX9_carryOut ∈ wsL_law := tb_4 55 rfl rfl
theorem co_X9_carryOut : Cond.code yX9_carryOut cX9_carryOut 2 (some .int) ∈ wsL_law := tb_4 56 rfl rfl
theorem mlX9_223 : Cond.methodLink RX9 223 yX9_fault ∈ wsL_law := tb_4 57 rfl rfl
theorem mlX9_226 : Cond.methodLink RX9 226 yX9_carry ∈ wsL_law := tb_4 58 rfl rfl
theorem im_X9_carry : Cond.instanceMethod yX9_carry ∈ wsL_law := tb_4 60 rfl rfl
theorem se_X9_carry : Cond.selects RX9 yX9_carry yX9_carry ∈ wsL_law := tp_4 11 rfl
theorem co_X9_carry : Cond.code yX9_carry cX9_carry 3 (some .int) ∈ wsL_law := tb_4 61 rfl rfl
theorem mlL_100 : Cond.methodLink RL 100 yX8_undo ∈ wsL_law := tb_2 194 rfl rfl
theorem im_X8_undo : Cond.instanceMethod yX8_undo ∈ wsL_law := tb_2 195 rfl rfl
theorem se_X8_undo : Cond.selects RX8 yX8_undo yX8_undo ∈ wsL_law := tb_2 196 rfl rfl
theorem co_X8_undo : Cond.code yX8_undo cX8_undo 1 (some .int) ∈ wsL_law := tb_2 197 rfl rfl
theorem mlX8_264 : Cond.methodLink RX8 264 yX2_takeBack ∈ wsL_law := tb_2 198 rfl rfl
theorem im_X2_takeBack : Cond.instanceMethod yX2_takeBack ∈ wsL_law := tb_2 199 rfl rfl
theorem se_X2_takeBack : Cond.selects RX2 yX2_takeBack yX2_takeBack ∈ wsL_law := tb_2 200 rfl rfl
theorem co_X2_takeBack : Cond.code yX2_takeBack cX2_takeBack 3 (some .boolean) ∈ wsL_law := tb_2 201 rfl rfl
theorem mlL_103 : Cond.methodLink RL 103 yX9_undo ∈ wsL_law := tb_4 62 rfl rfl
theorem im_X9_undo : Cond.instanceMethod yX9_undo ∈ wsL_law := tb_4 63 rfl rfl
theorem se_X9_undo : Cond.selects RX9 yX9_undo yX9_undo ∈ wsL_law := tb_4 64 rfl rfl
theorem co_X9_undo : Cond.code yX9_undo cX9_undo 3 (some .int) ∈ wsL_law := tb_4 65 rfl rfl
theorem mlL_104 : Cond.methodLink RL 104 yX8_save ∈ wsL_law := tb_2 202 rfl rfl
theorem im_X8_save : Cond.instanceMethod yX8_save ∈ wsL_law := tb_2 203 rfl rfl
theorem se_X8_save : Cond.selects RX8 yX8_save yX8_save ∈ wsL_law := tb_2 204 rfl rfl
theorem co_X8_save : Cond.code yX8_save cX8_save 3 (some .int) ∈ wsL_law := tb_2 205 rfl rfl
theorem mlX8_268 : Cond.methodLink RX8 268 yX3_copyFrom ∈ wsL_law := tb_2 206 rfl rfl
theorem mlL_107 : Cond.methodLink RL 107 yX9_save ∈ wsL_law := tb_4 66 rfl rfl
theorem im_X9_save : Cond.instanceMethod yX9_save ∈ wsL_law := tb_4 67 rfl rfl
theorem se_X9_save : Cond.selects RX9 yX9_save yX9_save ∈ wsL_law := tb_4 68 rfl rfl
theorem co_X9_save : Cond.code yX9_save cX9_save 3 (some .int) ∈ wsL_law := tb_4 69 rfl rfl
theorem mlL_108 : Cond.methodLink RL 108 yX8_restore ∈ wsL_law := tb_2 207 rfl rfl
theorem im_X8_restore : Cond.instanceMethod yX8_restore ∈ wsL_law := tb_2 208 rfl rfl
theorem se_X8_restore : Cond.selects RX8 yX8_restore yX8_restore ∈ wsL_law := tb_2 209 rfl rfl
theorem co_X8_restore : Cond.code yX8_restore cX8_restore 3 (some .int) ∈ wsL_law := tb_2 210 rfl rfl
theorem mlL_111 : Cond.methodLink RL 111 yX9_restore ∈ wsL_law := tb_4 70 rfl rfl
theorem im_X9_restore : Cond.instanceMethod yX9_restore ∈ wsL_law := tb_4 71 rfl rfl
theorem se_X9_restore : Cond.selects RX9 yX9_restore yX9_restore ∈ wsL_law := tb_4 72 rfl rfl
theorem co_X9_restore : Cond.code yX9_restore cX9_restore 3 (some .int) ∈ wsL_law := tb_4 73 rfl rfl
theorem inlX0 : ∀ w ∈ wsX00, w ∈ wsL_law := by
  intro w hw
  obtain ⟨k, hk, rfl⟩ := List.mem_map.mp hw
  have hk := List.mem_range.mp hk
  match k, hk with
  | 0, _ => exact tb_0 106 rfl rfl
  | 1, _ => exact tb_0 108 rfl rfl
  | 2, _ => exact tb_0 110 rfl rfl
  | 3, _ => exact tb_0 112 rfl rfl
  | 4, _ => exact tb_0 114 rfl rfl
  | k + 5, h => exact absurd h (by omega)
theorem inlX1 : ∀ w ∈ wsX10, w ∈ wsL_law := by
  intro w hw
  obtain ⟨k, hk, rfl⟩ := List.mem_map.mp hw
  have hk := List.mem_range.mp hk
  match k, hk with
  | 0, _ => exact tb_0 55 rfl rfl
  | 1, _ => exact tb_0 57 rfl rfl
  | k + 2, h => exact absurd h (by omega)
theorem inlX2 : ∀ w ∈ wsX20, w ∈ wsL_law := by
  intro w hw
  obtain ⟨k, hk, rfl⟩ := List.mem_map.mp hw
  have hk := List.mem_range.mp hk
  match k, hk with
  | 0, _ => exact tb_0 183 rfl rfl
  | 1, _ => exact tb_0 185 rfl rfl
  | 2, _ => exact tb_0 187 rfl rfl
  | k + 3, h => exact absurd h (by omega)
theorem inlX3 : ∀ w ∈ wsX30, w ∈ wsL_law := by
  intro w hw
  obtain ⟨k, hk, rfl⟩ := List.mem_map.mp hw
  have hk := List.mem_range.mp hk
  match k, hk with
  | 0, _ => exact tb_0 145 rfl rfl
  | 1, _ => exact tb_0 147 rfl rfl
  | 2, _ => exact tb_0 149 rfl rfl
  | 3, _ => exact tb_0 151 rfl rfl
  | 4, _ => exact tb_0 153 rfl rfl
  | 5, _ => exact tb_0 155 rfl rfl
  | 6, _ => exact tb_0 157 rfl rfl
  | 7, _ => exact tb_0 159 rfl rfl
  | 8, _ => exact tb_0 161 rfl rfl
  | 9, _ => exact tb_0 163 rfl rfl
  | 10, _ => exact tb_0 165 rfl rfl
  | 11, _ => exact tb_0 167 rfl rfl
  | k + 12, h => exact absurd h (by omega)
theorem inlX4 : ∀ w ∈ wsX40, w ∈ wsL_law := by
  intro w hw
  obtain ⟨k, hk, rfl⟩ := List.mem_map.mp hw
  have hk := List.mem_range.mp hk
  match k, hk with
  | 0, _ => exact tb_0 225 rfl rfl
  | 1, _ => exact tb_0 227 rfl rfl
  | 2, _ => exact tb_0 229 rfl rfl
  | 3, _ => exact tb_0 231 rfl rfl
  | 4, _ => exact tb_0 233 rfl rfl
  | 5, _ => exact tb_0 235 rfl rfl
  | 6, _ => exact tb_0 237 rfl rfl
  | k + 7, h => exact absurd h (by omega)
theorem inlX5 : ∀ w ∈ wsX50, w ∈ wsL_law := by
  intro w hw
  obtain ⟨k, hk, rfl⟩ := List.mem_map.mp hw
  have hk := List.mem_range.mp hk
  match k, hk with
  | 0, _ => exact tb_0 202 rfl rfl
  | 1, _ => exact tb_0 204 rfl rfl
  | k + 2, h => exact absurd h (by omega)
theorem inlX6 : ∀ w ∈ wsX60, w ∈ wsL_law := by
  intro w hw
  obtain ⟨k, hk, rfl⟩ := List.mem_map.mp hw
  have hk := List.mem_range.mp hk
  match k, hk with
  | 0, _ => exact tb_0 38 rfl rfl
  | k + 1, h => exact absurd h (by omega)
theorem inlX7 : ∀ w ∈ wsX70, w ∈ wsL_law := by
  intro w hw
  obtain ⟨k, hk, rfl⟩ := List.mem_map.mp hw
  have hk := List.mem_range.mp hk
  match k, hk with
  | 0, _ => exact tb_0 77 rfl rfl
  | 1, _ => exact tb_0 79 rfl rfl
  | 2, _ => exact tb_0 81 rfl rfl
  | 3, _ => exact tb_0 83 rfl rfl
  | 4, _ => exact tb_0 85 rfl rfl
  | k + 5, h => exact absurd h (by omega)
theorem inlX8 : ∀ w ∈ wsX80, w ∈ wsL_law := by
  intro w hw
  obtain ⟨k, hk, rfl⟩ := List.mem_map.mp hw
  have hk := List.mem_range.mp hk
  match k, hk with
  | 0, _ => exact tb_1 6 rfl rfl
  | 1, _ => exact tb_1 8 rfl rfl
  | 2, _ => exact tb_1 10 rfl rfl
  | 3, _ => exact tb_1 12 rfl rfl
  | 4, _ => exact tb_1 14 rfl rfl
  | 5, _ => exact tb_1 16 rfl rfl
  | k + 6, h => exact absurd h (by omega)
theorem inlX9 : ∀ w ∈ wsX90, w ∈ wsL_law := by
  intro w hw
  obtain ⟨k, hk, rfl⟩ := List.mem_map.mp hw
  have hk := List.mem_range.mp hk
  match k, hk with
  | 0, _ => exact tb_2 231 rfl rfl
  | 1, _ => exact tb_2 233 rfl rfl
  | 2, _ => exact tb_2 235 rfl rfl
  | 3, _ => exact tb_2 237 rfl rfl
  | 4, _ => exact tb_2 239 rfl rfl
  | 5, _ => exact tb_3 1 rfl rfl
  | 6, _ => exact tb_3 3 rfl rfl
  | 7, _ => exact tb_3 5 rfl rfl
  | 8, _ => exact tb_3 7 rfl rfl
  | 9, _ => exact tb_3 9 rfl rfl
  | 10, _ => exact tb_3 11 rfl rfl
  | 11, _ => exact tb_3 13 rfl rfl
  | 12, _ => exact tb_3 15 rfl rfl
  | 13, _ => exact tb_3 17 rfl rfl
  | k + 14, h => exact absurd h (by omega)
end
section
/-! ===== the base layer: nest mates' words, static arrays, the cells of the system, contexts, the judgement VV ===== -/
abbrev FN : Type := Nat → Int32
abbrev St : Type := Nat → FN
abbrev Gs : Type := Nat → St
abbrev nF : List (String × Nat × String × String × String × String) := [("ShoutGroups$Library", 11, "ShoutGroups", "AT_FIRST", "[I", "ShoutGroups"), ("ShoutGroups$Library", 97, "ShoutGroups$Cards", "kinds", "LShoutGroups$Row;", "ShoutGroups"), ("ShoutGroups", 132, "ShoutGroups$Cards", "kinds", "LShoutGroups$Row;", "ShoutGroups"), ("ShoutGroups", 135, "ShoutGroups$Cards", "names", "LShoutGroups$Row;", "ShoutGroups"), ("ShoutGroups", 155, "ShoutGroups$Shelves", "lengths", "LShoutGroups$Row;", "ShoutGroups"), ("ShoutGroups$Library", 169, "ShoutGroups$Shelves", "lengths", "LShoutGroups$Row;", "ShoutGroups"), ("ShoutGroups", 126, "ShoutGroups$Shelves", "holders", "LShoutGroups$Row;", "ShoutGroups"), ("ShoutGroups$Library", 182, "ShoutGroups$Shelves", "holders", "LShoutGroups$Row;", "ShoutGroups"), ("ShoutGroups$Library", 208, "ShoutGroups$Account", "kinds", "LShoutGroups$Row;", "ShoutGroups"), ("ShoutGroups$Library", 202, "ShoutGroups$Account", "readers", "LShoutGroups$Row;", "ShoutGroups"), ("ShoutGroups$Library", 205, "ShoutGroups$Account", "notes", "LShoutGroups$Row;", "ShoutGroups"), ("ShoutGroups", 225, "ShoutGroups$Account", "length", "I", "ShoutGroups"), ("ShoutGroups$Library", 195, "ShoutGroups$Account", "length", "I", "ShoutGroups"), ("ShoutGroups", 64, "ShoutGroups$Library", "settings", "LShoutGroups$Row;", "ShoutGroups"), ("ShoutGroups", 129, "ShoutGroups$Library", "values", "LShoutGroups$Row;", "ShoutGroups"), ("ShoutGroups", 50, "ShoutGroups$Library", "cards", "LShoutGroups$Cards;", "ShoutGroups"), ("ShoutGroups", 104, "ShoutGroups$Library", "shelves", "LShoutGroups$Shelves;", "ShoutGroups"), ("ShoutGroups", 86, "ShoutGroups$Library", "account", "LShoutGroups$Account;", "ShoutGroups"), ("ShoutGroups", 185, "ShoutGroups$Library", "totals", "LShoutGroups$Row;", "ShoutGroups"), ("ShoutGroups", 146, "ShoutGroups$Library", "noteCalledBack", "LShoutGroups$Row;", "ShoutGroups"), ("ShoutGroups", 149, "ShoutGroups$Library", "noteShouts", "LShoutGroups$Row;", "ShoutGroups"), ("ShoutGroups", 170, "ShoutGroups$Library", "readerUses", "LShoutGroups$Row;", "ShoutGroups"), ("ShoutGroups", 173, "ShoutGroups$Library", "readerQuietUses", "LShoutGroups$Row;", "ShoutGroups"), ("ShoutGroups", 176, "ShoutGroups$Library", "readerCalledBack", "LShoutGroups$Row;", "ShoutGroups"), ("ShoutGroups", 179, "ShoutGroups$Library", "readerWasted", "LShoutGroups$Row;", "ShoutGroups"), ("ShoutGroups", 201, "ShoutGroups$History", "length", "I", "ShoutGroups"), ("ShoutGroups$Orders", 23, "ShoutGroups$Pad", "length", "I", "ShoutGroups"), ("ShoutGroups", 197, "ShoutGroups$Pad", "length", "I", "ShoutGroups"), ("ShoutGroups", 243, "ShoutGroups$Orders", "place", "I", "ShoutGroups"), ("ShoutGroups", 250, "ShoutGroups$Orders", "kind", "I", "ShoutGroups"), ("ShoutGroups", 253, "ShoutGroups$Orders", "reader", "I", "ShoutGroups"), ("ShoutGroups", 256, "ShoutGroups$Orders", "note", "I", "ShoutGroups"), ("ShoutGroups", 259, "ShoutGroups$Orders", "value", "I", "ShoutGroups")]
abbrev nM : List (String × Nat × MethodName × String) := [("ShoutGroups$Library", 29, yX1_init, "ShoutGroups"), ("ShoutGroups$Library", 36, yX7_init, "ShoutGroups"), ("ShoutGroups$Library", 43, yX0_init, "ShoutGroups"), ("ShoutGroups", 32, yX5_init, "ShoutGroups"), ("ShoutGroups$Library", 86, yX8_isReader, "ShoutGroups"), ("ShoutGroups$Library", 90, yX8_isNote, "ShoutGroups"), ("ShoutGroups$Shelves", 36, yX8_isIn, "ShoutGroups"), ("ShoutGroups$Shelves", 44, yX8_only, "ShoutGroups"), ("ShoutGroups$Cards", 31, yX8_groupOf, "ShoutGroups"), ("ShoutGroups$Cards", 27, yX8_isIn, "ShoutGroups"), ("ShoutGroups$Cards", 35, yX8_only, "ShoutGroups"), ("ShoutGroups$Library", 157, yX8_isIn, "ShoutGroups"), ("ShoutGroups$Library", 145, yX8_only, "ShoutGroups")]
def nwF (q : String × Nat × String × String × String × String) : Cond := .fieldLinkNest q.1 q.2.1 q.2.2.1 q.2.2.2.1 q.2.2.2.2.1 q.2.2.2.2.2
def nwM (q : String × Nat × MethodName × String) : Cond := .methodLinkNest q.1 q.2.1 q.2.2.1 q.2.2.2
def fLow : FN := fun j => match j with | 0 => 0 | 1 => 1 | 2 => 1 | _ => 0
def fHigh : FN := fun j => match j with | 0 => 4 | 1 => 8 | 2 => 8 | _ => 1
def fFirst : FN := fun j => match j with | 0 => 2 | 1 => 4 | 2 => 3 | _ => 0
def saT (nm : String) (f : FN) (A : Nat → Prop) (U : State) (H : Heap) : Prop := ∃ t : Nat, va_Z RX8 nm "[I" (.ref t) A U H ∧ va_T .int t 4 (fun j => .int (f j)) A U H
theorem saT.moved {nm : String} {f : FN} {A : Nat → Prop} {u U : State} {H : Heap} (hvm : u.vm.Alike U.vm) (h : saT nm f A u H) : saT nm f A U H := by
  obtain ⟨t, h1, h2⟩ := h
  exact ⟨t, h1.moved hvm, h2.moved hvm⟩
theorem saT.kept {nm : String} {f : FN} {A : Nat → Prop} {U : State} {H H1 : Heap} (h : saT nm f A U H) (hq : ∀ a : Nat, a < H.size → ¬ A a → H1[a]? = H[a]?) : saT nm f A U H1 := by
  obtain ⟨t, h1, h2⟩ := h
  exact ⟨t, h1.kept hq, h2.kept hq⟩
def KW (D : va_G) (tys : List (ClassId × FieldType)) (A : Nat → Prop) (U : State) : Prop := va_K D vwCl tys U ∧ (∀ q ∈ nF, va_Nw (nwF q) U) ∧ (∀ q ∈ nM, va_Nw (nwM q) U) ∧ saT "LOWEST" fLow A U U.heap ∧ saT "HIGHEST" fHigh A U U.heap ∧ saT "AT_FIRST" fFirst A U U.heap
theorem KW.go {D : va_G} {tys : List (ClassId × FieldType)} {A : Nat → Prop} {s U : State} {H : Heap} {locs : List Loc} (K : KW D tys A s) (hS : va_S A s.heap H locs) (hU : U.heap = H) (hW : s.WarmedH U.vm) : KW D tys A U := by
  obtain ⟨k1, k2, k3, k4, k5, k6⟩ := K
  have hq : ∀ a : Nat, a < s.heap.size → ¬ A a → U.heap[a]? = s.heap[a]? := fun a h1 h2 => by rw [hU]; exact hS.2.1 a h1 h2
  exact ⟨va_K.moved hW.alike k1, fun q h => va_Nw.warmF hW (k2 q h), fun q h => va_Nw.warmM hW (k3 q h), (k4.kept hq).moved hW.alike, (k5.kept hq).moved hW.alike, (k6.kept hq).moved hW.alike⟩
theorem KW.blind {D : va_G} {tys : List (ClassId × FieldType)} {A : Nat → Prop} {U : State} {g : JFrame} {mk : MethodId} {a : Array Value} (K : KW D tys A U) : KW D tys A (U.calling g mk a) := by
  obtain ⟨k1, k2, k3, k4, k5, k6⟩ := K
  exact ⟨va_K.moved (u := U) (U := U.calling g mk a) (Vm.Alike.refl U.vm) k1, fun q h => va_Nw.same (u := U) (U := U.calling g mk a) rfl rfl (k2 q h), fun q h => va_Nw.same (u := U) (U := U.calling g mk a) rfl rfl (k3 q h), saT.moved (u := U) (U := U.calling g mk a) (Vm.Alike.refl U.vm) k4, saT.moved (u := U) (U := U.calling g mk a) (Vm.Alike.refl U.vm) k5, saT.moved (u := U) (U := U.calling g mk a) (Vm.Alike.refl U.vm) k6⟩
/-! the cells: the classes of arrays, the addresses by group and place, which cells there are -/
abbrev En : Type := (ClassId × ClassId × ClassId) × (Nat → Nat → Nat) × List (Nat × Nat)
abbrev eI (E : En) : ClassId := E.1.1
abbrev eZ (E : En) : ClassId := E.1.2.1
abbrev eL (E : En) : ClassId := E.1.2.2
abbrev eA (E : En) : Nat → Nat → Nat := E.2.1
abbrev eW (E : En) : List (Nat × Nat) := E.2.2
abbrev eT (E : En) : List (ClassId × FieldType) := [(eI E, .int), (eZ E, .boolean), (eL E, .object RX3)]
/-- group 0: the system's own object and what is beside its libraries -/
def topC (E : En) (k : Nat) (f : FN) : va_E := match k with
  | 0 => .inr (8, [.ref (eA E 2 0), .ref (eA E 3 0), .ref (eA E 0 1), .ref (eA E 0 3), .ref (eA E 0 4), .ref (eA E 0 7)])
  | 1 => .inr (2, [.ref (eA E 0 2), .int (f 1), .int (f 2)])
  | 2 => .inl (eL E, 6, .inr (.inr (.inr (.inr (fun j => some (eA E (j + 4) 0))))))
  | 3 => .inl (eL E, 2, .inr (.inr (.inr (.inr (fun j => if f j = 0 then none else some (eA E (j + 10) 0))))))
  | 4 => .inr (5, [.ref (eA E 0 5), .int (f 1)])
  | 5 => .inr (6, [.ref (eA E 0 6)])
  | 6 => .inl (eI E, 80, .inl f)
  | _ => .inr (4, [.ref (eA E 0 4), .int (f 1), .int (f 2), .int (f 3), .int (f 4), .int (f 5), .int (f 6)])
/-- group 1: the reference's object and its rows -/
def modC (E : En) (k : Nat) (f : FN) : va_E := match k with
  | 0 => .inr (9, [.ref (eA E 1 1), .ref (eA E 1 2), .int (f 2), .int (f 3), .ref (eA E 1 3), .ref (eA E 1 4), .ref (eA E 1 5), .ref (eA E 1 6), .int (f 8), .int (f 9), .int (f 10), .int (f 11), .ref (eA E 1 7), .ref (eA E 1 8)])
  | 1 => .inl (eI E, 652, .inl f)
  | 2 => .inl (eI E, 3912, .inl f)
  | 3 => .inl (eI E, 1304, .inl f)
  | 4 => .inl (eZ E, 2, .inl f)
  | 5 => .inl (eI E, 652, .inl f)
  | 6 => .inl (eI E, 80, .inl f)
  | 7 => .inl (eI E, 29, .inl f)
  | _ => .inl (eI E, 87, .inl f)
/-- group b + 2: the library b -/
def libC (E : En) (o k : Nat) (f : FN) : va_E := match k with
  | 0 => .inr (3, [.ref (eA E o 1), .ref (eA E o 3), .ref (eA E o 5), .ref (eA E o 10), .ref (eA E o 21), .ref (eA E o 28), .ref (eA E o 30), .ref (eA E o 32), .ref (eA E o 34), .ref (eA E o 36), .ref (eA E o 38), .ref (eA E o 40)])
  | 1 => .inr (6, [.ref (eA E o 2)])
  | 2 => .inl (eI E, 4, .inl f)
  | 3 => .inr (6, [.ref (eA E o 4)])
  | 4 => .inl (eI E, 24, .inl f)
  | 5 => .inr (1, [.ref (eA E o 6), .ref (eA E o 8)])
  | 6 => .inr (6, [.ref (eA E o 7)])
  | 7 => .inl (eI E, 24, .inl f)
  | 8 => .inr (6, [.ref (eA E o 9)])
  | 9 => .inl (eI E, 24, .inl f)
  | 10 => .inr (7, [.ref (eA E o 11), .ref (eA E o 13), .ref (eA E o 15), .ref (eA E o 17), .ref (eA E o 19)])
  | 11 => .inr (6, [.ref (eA E o 12)])
  | 12 => .inl (eI E, 16, .inl f)
  | 13 => .inr (6, [.ref (eA E o 14)])
  | 14 => .inl (eI E, 128, .inl f)
  | 15 => .inr (6, [.ref (eA E o 16)])
  | 16 => .inl (eI E, 128, .inl f)
  | 17 => .inr (6, [.ref (eA E o 18)])
  | 18 => .inl (eI E, 128, .inl f)
  | 19 => .inr (6, [.ref (eA E o 20)])
  | 20 => .inl (eI E, 24, .inl f)
  | 21 => .inr (0, [.ref (eA E o 22), .ref (eA E o 24), .ref (eA E o 26), .int (f 3), .int (f 4)])
  | 22 => .inr (6, [.ref (eA E o 23)])
  | 23 => .inl (eI E, 60, .inl f)
  | 24 => .inr (6, [.ref (eA E o 25)])
  | 25 => .inl (eI E, 60, .inl f)
  | 26 => .inr (6, [.ref (eA E o 27)])
  | 27 => .inl (eI E, 60, .inl f)
  | 28 => .inr (6, [.ref (eA E o 29)])
  | 29 => .inl (eI E, 3, .inl f)
  | 30 => .inr (6, [.ref (eA E o 31)])
  | 31 => .inl (eI E, 24, .inl f)
  | 32 => .inr (6, [.ref (eA E o 33)])
  | 33 => .inl (eI E, 24, .inl f)
  | 34 => .inr (6, [.ref (eA E o 35)])
  | 35 => .inl (eI E, 16, .inl f)
  | 36 => .inr (6, [.ref (eA E o 37)])
  | 37 => .inl (eI E, 16, .inl f)
  | 38 => .inr (6, [.ref (eA E o 39)])
  | 39 => .inl (eI E, 16, .inl f)
  | 40 => .inr (6, [.ref (eA E o 41)])
  | _ => .inl (eI E, 16, .inl f)
def cel (E : En) (o k : Nat) (f : FN) : va_E := match o with
  | 0 => topC E k f
  | 1 => modC E k f
  | b + 2 => libC E (b + 2) k f
def celG (E : En) (G : Gs) (q : Nat × Nat) : va_E := cel E q.1 q.2 (G q.1 q.2)
def wl (E : En) (G : Gs) : va_W := (eW E).map (fun q => (eA E q.1 q.2, celG E G q))
theorem up_self {α : Type} (f : Nat → α) (k : Nat) (v : α) : va_up f k v k = v := by simp [va_up]
theorem up_ne {α : Type} (f : Nat → α) {k j : Nat} (v : α) (h : j ≠ k) : va_up f k v j = f j := by simp [va_up, h]
theorem up_up {α : Type} (f : Nat → α) (k : Nat) (v w : α) : va_up (va_up f k v) k w = va_up f k w := by
  funext j
  by_cases h : j = k <;> simp [va_up, h]
theorem up_id {α : Type} (f : Nat → α) (k : Nat) : va_up f k (f k) = f := by
  funext j
  by_cases h : j = k <;> simp [va_up, h]
theorem up_eta {α : Type} {f : Nat → α} {k : Nat} {v : α} (h : f k = v) : va_up f k v = f := by rw [← h]; exact up_id f k
theorem wl_at {E : En} {o k : Nat} (G : Gs) (hm : (o, k) ∈ eW E) : ∃ q0 : Nat, (wl E G)[q0]? = some (eA E o k, cel E o k (G o k)) := by
  obtain ⟨i, hi⟩ := List.getElem?_of_mem hm
  exact ⟨i, by rw [wl, List.getElem?_map, hi]; rfl⟩
theorem wl_set {E : En} {o k q0 : Nat} {G : Gs} {A : Nat → Prop} {e0 : va_E} (f : FN) (hD : va_D A (wl E G)) (hm : (o, k) ∈ eW E) (h0 : (wl E G)[q0]? = some (eA E o k, e0)) : (wl E G).set q0 (eA E o k, cel E o k f) = wl E (va_up G o (va_up (G o) k f)) := by
  have hl : q0 < (wl E G).length := (List.getElem?_eq_some_iff.mp h0).1
  have hlen : (wl E G).length = (eW E).length := by simp [wl]
  have apart : ∀ (j : Nat) (q : Nat × Nat), (eW E)[j]? = some q → q = (o, k) → j = q0 := by
    intro j q hj hq
    subst hq
    have h1 : (wl E G)[j]? = some (eA E o k, celG E G (o, k)) := by rw [wl, List.getElem?_map, hj]; rfl
    exact hD.1 j q0 _ _ h1 h0 rfl
  obtain ⟨i0, hi0⟩ := List.getElem?_of_mem hm
  have hi : i0 = q0 := apart i0 _ hi0 rfl
  subst hi
  refine List.ext_getElem? (fun j => ?_)
  by_cases hj : j = i0
  · subst hj
    rw [List.getElem?_set_self hl, wl, List.getElem?_map, hi0]
    simp [celG, va_up]
  · rw [List.getElem?_set_ne (Ne.symm hj), wl, wl, List.getElem?_map, List.getElem?_map]
    cases hq : (eW E)[j]? with
    | none => rfl
    | some q =>
      have hne : ¬ q = (o, k) := fun h => hj (apart j q hq h)
      have : celG E (va_up G o (va_up (G o) k f)) q = celG E G q := by
        obtain ⟨o', k'⟩ := q
        show cel E o' k' (va_up G o (va_up (G o) k f) o' k') = cel E o' k' (G o' k')
        by_cases ho : o' = o
        · subst ho
          have hk : k' ≠ k := fun h => hne (by rw [h])
          rw [up_self, up_ne _ _ hk]
        · rw [up_ne _ _ ho]
      simp [this]
theorem wl_D {E : En} {G G' : Gs} {A : Nat → Prop} (hD : va_D A (wl E G)) : va_D A (wl E G') := by
  have key : ∀ (k : Nat) (q : Nat × va_E), (wl E G')[k]? = some q → ∃ q', (wl E G)[k]? = some q' ∧ q'.1 = q.1 := by
    intro k q h
    rw [wl, List.getElem?_map] at h
    cases hq : (eW E)[k]? with
    | none => rw [hq] at h; cases h
    | some r =>
      rw [hq] at h
      cases h
      exact ⟨(eA E r.1 r.2, celG E G r), by rw [wl, List.getElem?_map, hq]; rfl, rfl⟩
  refine ⟨fun i j p q h1 h2 h3 => ?_, fun k q h => ?_⟩
  · obtain ⟨p', a1, a2⟩ := key i p h1
    obtain ⟨q', b1, b2⟩ := key j q h2
    exact hD.1 i j p' q' a1 b1 (a2.trans (h3.trans b2.symm))
  · obtain ⟨q', a1, a2⟩ := key k q h
    rw [← a2]
    exact hD.2 k q' a1
/-! contexts and the judgement -/
def Cx (p : Program) (s : State) (m : MethodId) (args : Array Value) (meth : Method) (c : Code) (D : va_G) (E : En) (A : Nat → Prop) (own : String) (cc : ByteArray) (nL : Nat) (ret : Option FieldType) (Ts : List Cond) : Prop :=
  p.tables.exec = Jvm.exec ∧ c.code = cc ∧ c.maxLocals = nL ∧ s.vm.findClass own = some m.cls ∧ (∀ w ∈ Ts, w.before args s = true) ∧ (∀ w ∈ wsL_law, w ∈ Ts) ∧ KW D (eT E) A s ∧ meth.sig.returnType = ret ∧ meth.locks = false
def VV (p : Program) (l : Launch) (e : Env) (R : Room) (s : State) (m : MethodId) (args : Array Value) (below : List Frame) (meth : Method) (c : Code) (Q : State → Prop) (D : va_G) (A : Nat → Prop) (nL : Nat) (pc : Nat) (st : List Value) (lv : List (Nat × Value)) (ws : va_W) : Prop :=
  ∀ (H : Heap) (locs : List Loc) (ls : Array Slot), va_P D vwCl ws H → va_D A ws → va_S A s.heap H locs → lv_has ls nL lv → W p l e R s m args below meth c H locs 0 0 Q (F0 m pc ls st)
def CQ (D : va_G) (A : Nat → Prop) (rv : Option Value) (ws1 : va_W) : Array Value → State → Outcome → State → Prop := fun _ st oc t => (oc = .returned rv ∧ va_P D vwCl ws1 t.heap ∧ va_D A ws1) ∧ va_F A st t
def CP (D : va_G) (E : En) (A : Nat → Prop) (ws0 : va_W) : State → Prop := fun U => KW D (eT E) A U ∧ va_P D vwCl ws0 U.heap ∧ va_D A ws0
/-- a contract: no cell is made -/
def Ctr (l : Launch) (D : va_G) (E : En) (A : Nat → Prop) (y : MethodName) (bytes : ByteArray) (maxL : Nat) (ret : Option FieldType) (rm : Room) (av : List Value) (ws0 : va_W) (rv : Option Value) (ws1 : va_W) : Prop :=
  Met l y (.code y bytes maxL ret :: wsL_law) rm (va_Pc av (CP D E A ws0)) (CQ D A rv ws1) 0 0 A
theorem Ctr.of {l : Launch} {D : va_G} {E : En} {A : Nat → Prop} {y : MethodName} {own : String} {bytes : ByteArray} {maxL : Nat} {ret : Option FieldType} {rm : Room} {av : List Value} {ws0 : va_W} {rv : Option Value} {ws1 : va_W} (hy : plainName y.cls = true) (ho : y.cls = own) (hsz : (lg_sl av).length ≤ maxL)
    (body : ∀ (p : Program) (e : Env) (s : State) (m : MethodId) (args : Array Value) (below : List Frame) (meth : Method) (c : Code), Cx p s m args meth c D E A own bytes maxL ret (.code y bytes maxL ret :: wsL_law) → VV p l e rm s m args below meth c (MQ below (CQ D A rv ws1) args s 0 0 A) D A maxL 0 [] (lv_args 0 av) ws0) : Ctr l D E A y bytes maxL ret rm av ws0 rv ws1 := by
  refine Met.ofW (cc := bytes) (maxL := maxL) (ret := ret) hy rfl ?_
  intro p e s m args below meth c s₁ B hml hv
  obtain ⟨rfl, hK, hP, hD⟩ := hv
  have hl := lv_entry av (n := maxL) hsz
  rw [lg_entry_eq]
  exact body p e s m _ below meth c ⟨B.exec, B.bytes, hml, ho ▸ findClass_of_methodNamed B.named, atoms_spec B.pre, fun _ h => List.mem_cons_of_mem _ h, hK, B.returns, B.notSynchronized⟩ s.heap [] _ hP hD va_S.rf hl
end
