section
-- ===== PART A: goes FIRST, ahead of the names: the tables' words, and 'selects' of the private methods out of them =====
/-- a private method of a class that the tables say can be made, by its rows of tables_1 -/
def lw_okq (q : MethodName × Nat) : Prop := (q.1.cls ≠ "java/lang/invoke/MethodHandle" ∧ q.1.cls ≠ "java/lang/invoke/VarHandle") ∧ Cond.instantiable q.1.cls q.2 ∈ tables_1 ∧ Cond.privateMethod q.1 ∈ tables_1 ∧ Cond.instanceMethod q.1 ∈ tables_1
theorem lw_p0 : lw_okq (⟨"ThrownSacks$Best", "bestTown", "(LThrownSacks$Plan;I)I"⟩, 4) := ⟨⟨by decide +kernel, by decide +kernel⟩, List.mem_of_getElem? (i := 127) (by decide +kernel), List.mem_of_getElem? (i := 306) (by decide +kernel), List.mem_of_getElem? (i := 307) (by decide +kernel)⟩
theorem lw_p1 : lw_okq (⟨"ThrownSacks$Best", "withTown", "(LThrownSacks$Plan;II)I"⟩, 4) := ⟨⟨by decide +kernel, by decide +kernel⟩, List.mem_of_getElem? (i := 127) (by decide +kernel), List.mem_of_getElem? (i := 310) (by decide +kernel), List.mem_of_getElem? (i := 311) (by decide +kernel)⟩
theorem lw_p2 : lw_okq (⟨"ThrownSacks", "isKnown", "(I)Z"⟩, 9) := ⟨⟨by decide +kernel, by decide +kernel⟩, List.mem_of_getElem? (i := 14) (by decide +kernel), List.mem_of_getElem? (i := 328) (by decide +kernel), List.mem_of_getElem? (i := 329) (by decide +kernel)⟩
theorem lw_p3 : lw_okq (⟨"ThrownSacks", "isFull", "(I)Z"⟩, 9) := ⟨⟨by decide +kernel, by decide +kernel⟩, List.mem_of_getElem? (i := 14) (by decide +kernel), List.mem_of_getElem? (i := 375) (by decide +kernel), List.mem_of_getElem? (i := 376) (by decide +kernel)⟩
theorem lw_p4 : lw_okq (⟨"ThrownSacks", "tenthsAt", "(III)I"⟩, 9) := ⟨⟨by decide +kernel, by decide +kernel⟩, List.mem_of_getElem? (i := 14) (by decide +kernel), List.mem_of_getElem? (i := 379) (by decide +kernel), List.mem_of_getElem? (i := 380) (by decide +kernel)⟩
theorem lw_p5 : lw_okq (⟨"ThrownSacks$Ways", "askAllFound", "(LThrownSacks$Standing;)Z"⟩, 5) := ⟨⟨by decide +kernel, by decide +kernel⟩, List.mem_of_getElem? (i := 148) (by decide +kernel), List.mem_of_getElem? (i := 458) (by decide +kernel), List.mem_of_getElem? (i := 459) (by decide +kernel)⟩
theorem lw_p6 : lw_okq (⟨"ThrownSacks$Ways", "keep", "(I)V"⟩, 5) := ⟨⟨by decide +kernel, by decide +kernel⟩, List.mem_of_getElem? (i := 148) (by decide +kernel), List.mem_of_getElem? (i := 466) (by decide +kernel), List.mem_of_getElem? (i := 467) (by decide +kernel)⟩
theorem lw_p7 : lw_okq (⟨"ThrownSacks$Ways", "canHang", "(III)Z"⟩, 5) := ⟨⟨by decide +kernel, by decide +kernel⟩, List.mem_of_getElem? (i := 148) (by decide +kernel), List.mem_of_getElem? (i := 470) (by decide +kernel), List.mem_of_getElem? (i := 471) (by decide +kernel)⟩
theorem lw_p8 : lw_okq (⟨"ThrownSacks$Trial", "draw", "(I)I"⟩, 4) := ⟨⟨by decide +kernel, by decide +kernel⟩, List.mem_of_getElem? (i := 173) (by decide +kernel), List.mem_of_getElem? (i := 487) (by decide +kernel), List.mem_of_getElem? (i := 488) (by decide +kernel)⟩
theorem lw_p9 : lw_okq (⟨"ThrownSacks$Trial", "throwAt", "(LThrownSacks$Plan;I)V"⟩, 4) := ⟨⟨by decide +kernel, by decide +kernel⟩, List.mem_of_getElem? (i := 173) (by decide +kernel), List.mem_of_getElem? (i := 495) (by decide +kernel), List.mem_of_getElem? (i := 496) (by decide +kernel)⟩
theorem lw_p10 : lw_okq (⟨"ThrownSacks", "withHook", "(JI)J"⟩, 9) := ⟨⟨by decide +kernel, by decide +kernel⟩, List.mem_of_getElem? (i := 14) (by decide +kernel), List.mem_of_getElem? (i := 535) (by decide +kernel), List.mem_of_getElem? (i := 536) (by decide +kernel)⟩
theorem lw_p11 : lw_okq (⟨"ThrownSacks", "withHanging", "(J)J"⟩, 9) := ⟨⟨by decide +kernel, by decide +kernel⟩, List.mem_of_getElem? (i := 14) (by decide +kernel), List.mem_of_getElem? (i := 543) (by decide +kernel), List.mem_of_getElem? (i := 544) (by decide +kernel)⟩
theorem lw_p12 : lw_okq (⟨"ThrownSacksModel", "read", "()V"⟩, 42) := ⟨⟨by decide +kernel, by decide +kernel⟩, List.mem_of_getElem? (i := 552) (by decide +kernel), List.mem_of_getElem? (i := 701) (by decide +kernel), List.mem_of_getElem? (i := 702) (by decide +kernel)⟩
theorem lw_p13 : lw_okq (⟨"ThrownSacksModel", "isFigure", "(III)Z"⟩, 42) := ⟨⟨by decide +kernel, by decide +kernel⟩, List.mem_of_getElem? (i := 552) (by decide +kernel), List.mem_of_getElem? (i := 705) (by decide +kernel), List.mem_of_getElem? (i := 706) (by decide +kernel)⟩
theorem lw_p14 : lw_okq (⟨"ThrownSacksModel", "isSign", "(II)Z"⟩, 42) := ⟨⟨by decide +kernel, by decide +kernel⟩, List.mem_of_getElem? (i := 552) (by decide +kernel), List.mem_of_getElem? (i := 709) (by decide +kernel), List.mem_of_getElem? (i := 710) (by decide +kernel)⟩
theorem lw_p15 : lw_okq (⟨"ThrownSacksModel", "readOften", "(I)V"⟩, 42) := ⟨⟨by decide +kernel, by decide +kernel⟩, List.mem_of_getElem? (i := 552) (by decide +kernel), List.mem_of_getElem? (i := 713) (by decide +kernel), List.mem_of_getElem? (i := 714) (by decide +kernel)⟩
def lw_privs_1 : List (MethodName × Nat) := [(⟨"ThrownSacks$Best", "bestTown", "(LThrownSacks$Plan;I)I"⟩, 4), (⟨"ThrownSacks$Best", "withTown", "(LThrownSacks$Plan;II)I"⟩, 4), (⟨"ThrownSacks", "isKnown", "(I)Z"⟩, 9), (⟨"ThrownSacks", "isFull", "(I)Z"⟩, 9), (⟨"ThrownSacks", "tenthsAt", "(III)I"⟩, 9), (⟨"ThrownSacks$Ways", "askAllFound", "(LThrownSacks$Standing;)Z"⟩, 5), (⟨"ThrownSacks$Ways", "keep", "(I)V"⟩, 5), (⟨"ThrownSacks$Ways", "canHang", "(III)Z"⟩, 5), (⟨"ThrownSacks$Trial", "draw", "(I)I"⟩, 4), (⟨"ThrownSacks$Trial", "throwAt", "(LThrownSacks$Plan;I)V"⟩, 4), (⟨"ThrownSacks", "withHook", "(JI)J"⟩, 9), (⟨"ThrownSacks", "withHanging", "(J)J"⟩, 9), (⟨"ThrownSacksModel", "read", "()V"⟩, 42), (⟨"ThrownSacksModel", "isFigure", "(III)Z"⟩, 42), (⟨"ThrownSacksModel", "isSign", "(II)Z"⟩, 42), (⟨"ThrownSacksModel", "readOften", "(I)V"⟩, 42)]
theorem lw_r1 : ∀ q ∈ lw_privs_1, lw_okq q := List.forall_mem_cons.mpr ⟨lw_p0, List.forall_mem_cons.mpr ⟨lw_p1, List.forall_mem_cons.mpr ⟨lw_p2, List.forall_mem_cons.mpr ⟨lw_p3, List.forall_mem_cons.mpr ⟨lw_p4, List.forall_mem_cons.mpr ⟨lw_p5, List.forall_mem_cons.mpr ⟨lw_p6, List.forall_mem_cons.mpr ⟨lw_p7, List.forall_mem_cons.mpr ⟨lw_p8, List.forall_mem_cons.mpr ⟨lw_p9, List.forall_mem_cons.mpr ⟨lw_p10, List.forall_mem_cons.mpr ⟨lw_p11, List.forall_mem_cons.mpr ⟨lw_p12, List.forall_mem_cons.mpr ⟨lw_p13, List.forall_mem_cons.mpr ⟨lw_p14, List.forall_mem_cons.mpr ⟨lw_p15, fun _ h => absurd h List.not_mem_nil⟩⟩⟩⟩⟩⟩⟩⟩⟩⟩⟩⟩⟩⟩⟩⟩
theorem lw_p16 : lw_okq (⟨"ThrownSacksModel", "empty", "(I)V"⟩, 42) := ⟨⟨by decide +kernel, by decide +kernel⟩, List.mem_of_getElem? (i := 552) (by decide +kernel), List.mem_of_getElem? (i := 721) (by decide +kernel), List.mem_of_getElem? (i := 722) (by decide +kernel)⟩
theorem lw_p17 : lw_okq (⟨"ThrownSacksModel", "isHook", "(I)Z"⟩, 42) := ⟨⟨by decide +kernel, by decide +kernel⟩, List.mem_of_getElem? (i := 552) (by decide +kernel), List.mem_of_getElem? (i := 729) (by decide +kernel), List.mem_of_getElem? (i := 730) (by decide +kernel)⟩
theorem lw_p18 : lw_okq (⟨"ThrownSacksModel", "hookNow", "(II)I"⟩, 42) := ⟨⟨by decide +kernel, by decide +kernel⟩, List.mem_of_getElem? (i := 552) (by decide +kernel), List.mem_of_getElem? (i := 733) (by decide +kernel), List.mem_of_getElem? (i := 734) (by decide +kernel)⟩
theorem lw_p19 : lw_okq (⟨"ThrownSacksModel", "isPlace", "(I)Z"⟩, 42) := ⟨⟨by decide +kernel, by decide +kernel⟩, List.mem_of_getElem? (i := 552) (by decide +kernel), List.mem_of_getElem? (i := 745) (by decide +kernel), List.mem_of_getElem? (i := 746) (by decide +kernel)⟩
theorem lw_p20 : lw_okq (⟨"ThrownSacksModel", "beltNow", "(II)I"⟩, 42) := ⟨⟨by decide +kernel, by decide +kernel⟩, List.mem_of_getElem? (i := 552) (by decide +kernel), List.mem_of_getElem? (i := 749) (by decide +kernel), List.mem_of_getElem? (i := 750) (by decide +kernel)⟩
theorem lw_p21 : lw_okq (⟨"ThrownSacksModel", "isFull", "(I)Z"⟩, 42) := ⟨⟨by decide +kernel, by decide +kernel⟩, List.mem_of_getElem? (i := 552) (by decide +kernel), List.mem_of_getElem? (i := 764) (by decide +kernel), List.mem_of_getElem? (i := 765) (by decide +kernel)⟩
theorem lw_p22 : lw_okq (⟨"ThrownSacksModel", "tenthsOf", "(III)I"⟩, 42) := ⟨⟨by decide +kernel, by decide +kernel⟩, List.mem_of_getElem? (i := 552) (by decide +kernel), List.mem_of_getElem? (i := 768) (by decide +kernel), List.mem_of_getElem? (i := 769) (by decide +kernel)⟩
theorem lw_p23 : lw_okq (⟨"ThrownSacksModel", "tenthsIn", "(II)I"⟩, 42) := ⟨⟨by decide +kernel, by decide +kernel⟩, List.mem_of_getElem? (i := 552) (by decide +kernel), List.mem_of_getElem? (i := 772) (by decide +kernel), List.mem_of_getElem? (i := 773) (by decide +kernel)⟩
theorem lw_p24 : lw_okq (⟨"ThrownSacksModel", "nextOf", "(I)I"⟩, 42) := ⟨⟨by decide +kernel, by decide +kernel⟩, List.mem_of_getElem? (i := 552) (by decide +kernel), List.mem_of_getElem? (i := 776) (by decide +kernel), List.mem_of_getElem? (i := 777) (by decide +kernel)⟩
theorem lw_p25 : lw_okq (⟨"ThrownSacksModel", "tenthsNext", "(II)I"⟩, 42) := ⟨⟨by decide +kernel, by decide +kernel⟩, List.mem_of_getElem? (i := 552) (by decide +kernel), List.mem_of_getElem? (i := 780) (by decide +kernel), List.mem_of_getElem? (i := 781) (by decide +kernel)⟩
theorem lw_p26 : lw_okq (⟨"ThrownSacksModel", "walk", "(I)I"⟩, 42) := ⟨⟨by decide +kernel, by decide +kernel⟩, List.mem_of_getElem? (i := 552) (by decide +kernel), List.mem_of_getElem? (i := 784) (by decide +kernel), List.mem_of_getElem? (i := 785) (by decide +kernel)⟩
theorem lw_p27 : lw_okq (⟨"ThrownSacksModel", "comes", "(IZ)V"⟩, 42) := ⟨⟨by decide +kernel, by decide +kernel⟩, List.mem_of_getElem? (i := 552) (by decide +kernel), List.mem_of_getElem? (i := 788) (by decide +kernel), List.mem_of_getElem? (i := 789) (by decide +kernel)⟩
theorem lw_p28 : lw_okq (⟨"ThrownSacksModel", "oddsNow", "(III)I"⟩, 42) := ⟨⟨by decide +kernel, by decide +kernel⟩, List.mem_of_getElem? (i := 552) (by decide +kernel), List.mem_of_getElem? (i := 808) (by decide +kernel), List.mem_of_getElem? (i := 809) (by decide +kernel)⟩
theorem lw_p29 : lw_okq (⟨"ThrownSacksModel", "costNow", "(II)I"⟩, 42) := ⟨⟨by decide +kernel, by decide +kernel⟩, List.mem_of_getElem? (i := 552) (by decide +kernel), List.mem_of_getElem? (i := 812) (by decide +kernel), List.mem_of_getElem? (i := 813) (by decide +kernel)⟩
theorem lw_p30 : lw_okq (⟨"ThrownSacksModel", "costBy", "(IIII)I"⟩, 42) := ⟨⟨by decide +kernel, by decide +kernel⟩, List.mem_of_getElem? (i := 552) (by decide +kernel), List.mem_of_getElem? (i := 816) (by decide +kernel), List.mem_of_getElem? (i := 817) (by decide +kernel)⟩
theorem lw_p31 : lw_okq (⟨"ThrownSacksModel", "hangingNow", "(I)I"⟩, 42) := ⟨⟨by decide +kernel, by decide +kernel⟩, List.mem_of_getElem? (i := 552) (by decide +kernel), List.mem_of_getElem? (i := 824) (by decide +kernel), List.mem_of_getElem? (i := 825) (by decide +kernel)⟩
def lw_privs_2 : List (MethodName × Nat) := [(⟨"ThrownSacksModel", "empty", "(I)V"⟩, 42), (⟨"ThrownSacksModel", "isHook", "(I)Z"⟩, 42), (⟨"ThrownSacksModel", "hookNow", "(II)I"⟩, 42), (⟨"ThrownSacksModel", "isPlace", "(I)Z"⟩, 42), (⟨"ThrownSacksModel", "beltNow", "(II)I"⟩, 42), (⟨"ThrownSacksModel", "isFull", "(I)Z"⟩, 42), (⟨"ThrownSacksModel", "tenthsOf", "(III)I"⟩, 42), (⟨"ThrownSacksModel", "tenthsIn", "(II)I"⟩, 42), (⟨"ThrownSacksModel", "nextOf", "(I)I"⟩, 42), (⟨"ThrownSacksModel", "tenthsNext", "(II)I"⟩, 42), (⟨"ThrownSacksModel", "walk", "(I)I"⟩, 42), (⟨"ThrownSacksModel", "comes", "(IZ)V"⟩, 42), (⟨"ThrownSacksModel", "oddsNow", "(III)I"⟩, 42), (⟨"ThrownSacksModel", "costNow", "(II)I"⟩, 42), (⟨"ThrownSacksModel", "costBy", "(IIII)I"⟩, 42), (⟨"ThrownSacksModel", "hangingNow", "(I)I"⟩, 42)]
theorem lw_r2 : ∀ q ∈ lw_privs_2, lw_okq q := List.forall_mem_cons.mpr ⟨lw_p16, List.forall_mem_cons.mpr ⟨lw_p17, List.forall_mem_cons.mpr ⟨lw_p18, List.forall_mem_cons.mpr ⟨lw_p19, List.forall_mem_cons.mpr ⟨lw_p20, List.forall_mem_cons.mpr ⟨lw_p21, List.forall_mem_cons.mpr ⟨lw_p22, List.forall_mem_cons.mpr ⟨lw_p23, List.forall_mem_cons.mpr ⟨lw_p24, List.forall_mem_cons.mpr ⟨lw_p25, List.forall_mem_cons.mpr ⟨lw_p26, List.forall_mem_cons.mpr ⟨lw_p27, List.forall_mem_cons.mpr ⟨lw_p28, List.forall_mem_cons.mpr ⟨lw_p29, List.forall_mem_cons.mpr ⟨lw_p30, List.forall_mem_cons.mpr ⟨lw_p31, fun _ h => absurd h List.not_mem_nil⟩⟩⟩⟩⟩⟩⟩⟩⟩⟩⟩⟩⟩⟩⟩⟩
theorem lw_p32 : lw_okq (⟨"ThrownSacksModel", "ways", "()I"⟩, 42) := ⟨⟨by decide +kernel, by decide +kernel⟩, List.mem_of_getElem? (i := 552) (by decide +kernel), List.mem_of_getElem? (i := 829) (by decide +kernel), List.mem_of_getElem? (i := 830) (by decide +kernel)⟩
theorem lw_p33 : lw_okq (⟨"ThrownSacksModel", "hangBy", "(I)V"⟩, 42) := ⟨⟨by decide +kernel, by decide +kernel⟩, List.mem_of_getElem? (i := 552) (by decide +kernel), List.mem_of_getElem? (i := 833) (by decide +kernel), List.mem_of_getElem? (i := 834) (by decide +kernel)⟩
theorem lw_p34 : lw_okq (⟨"ThrownSacksModel", "takesBy", "()I"⟩, 42) := ⟨⟨by decide +kernel, by decide +kernel⟩, List.mem_of_getElem? (i := 552) (by decide +kernel), List.mem_of_getElem? (i := 837) (by decide +kernel), List.mem_of_getElem? (i := 838) (by decide +kernel)⟩
theorem lw_p35 : lw_okq (⟨"ThrownSacksModel", "takesOn", "(I)I"⟩, 42) := ⟨⟨by decide +kernel, by decide +kernel⟩, List.mem_of_getElem? (i := 552) (by decide +kernel), List.mem_of_getElem? (i := 841) (by decide +kernel), List.mem_of_getElem? (i := 842) (by decide +kernel)⟩
theorem lw_p36 : lw_okq (⟨"ThrownSacksModel", "exchanges", "()I"⟩, 42) := ⟨⟨by decide +kernel, by decide +kernel⟩, List.mem_of_getElem? (i := 552) (by decide +kernel), List.mem_of_getElem? (i := 845) (by decide +kernel), List.mem_of_getElem? (i := 846) (by decide +kernel)⟩
theorem lw_p37 : lw_okq (⟨"ThrownSacksModel", "hookOf", "(II)I"⟩, 42) := ⟨⟨by decide +kernel, by decide +kernel⟩, List.mem_of_getElem? (i := 552) (by decide +kernel), List.mem_of_getElem? (i := 849) (by decide +kernel), List.mem_of_getElem? (i := 850) (by decide +kernel)⟩
theorem lw_p38 : lw_okq (⟨"ThrownSacksModel", "hungNow", "()I"⟩, 42) := ⟨⟨by decide +kernel, by decide +kernel⟩, List.mem_of_getElem? (i := 552) (by decide +kernel), List.mem_of_getElem? (i := 865) (by decide +kernel), List.mem_of_getElem? (i := 866) (by decide +kernel)⟩
theorem lw_p39 : lw_okq (⟨"ThrownSacksModel", "couldHang", "()Z"⟩, 42) := ⟨⟨by decide +kernel, by decide +kernel⟩, List.mem_of_getElem? (i := 552) (by decide +kernel), List.mem_of_getElem? (i := 869) (by decide +kernel), List.mem_of_getElem? (i := 870) (by decide +kernel)⟩
theorem lw_p40 : lw_okq (⟨"ThrownSacksModel", "whereNow", "(I)I"⟩, 42) := ⟨⟨by decide +kernel, by decide +kernel⟩, List.mem_of_getElem? (i := 552) (by decide +kernel), List.mem_of_getElem? (i := 877) (by decide +kernel), List.mem_of_getElem? (i := 878) (by decide +kernel)⟩
theorem lw_p41 : lw_okq (⟨"ThrownSacksModel", "shiftsNow", "(III)I"⟩, 42) := ⟨⟨by decide +kernel, by decide +kernel⟩, List.mem_of_getElem? (i := 552) (by decide +kernel), List.mem_of_getElem? (i := 885) (by decide +kernel), List.mem_of_getElem? (i := 886) (by decide +kernel)⟩
theorem lw_p42 : lw_okq (⟨"ThrownSacksModel", "goParcel", "()V"⟩, 42) := ⟨⟨by decide +kernel, by decide +kernel⟩, List.mem_of_getElem? (i := 552) (by decide +kernel), List.mem_of_getElem? (i := 889) (by decide +kernel), List.mem_of_getElem? (i := 890) (by decide +kernel)⟩
theorem lw_p43 : lw_okq (⟨"ThrownSacksModel", "draw", "(I)I"⟩, 42) := ⟨⟨by decide +kernel, by decide +kernel⟩, List.mem_of_getElem? (i := 552) (by decide +kernel), List.mem_of_getElem? (i := 893) (by decide +kernel), List.mem_of_getElem? (i := 894) (by decide +kernel)⟩
theorem lw_p44 : lw_okq (⟨"ThrownSacksModel", "wouldBeFull", "(I)Z"⟩, 42) := ⟨⟨by decide +kernel, by decide +kernel⟩, List.mem_of_getElem? (i := 552) (by decide +kernel), List.mem_of_getElem? (i := 901) (by decide +kernel), List.mem_of_getElem? (i := 902) (by decide +kernel)⟩
theorem lw_p45 : lw_okq (⟨"ThrownSacksModel", "howMany", "(I)I"⟩, 42) := ⟨⟨by decide +kernel, by decide +kernel⟩, List.mem_of_getElem? (i := 552) (by decide +kernel), List.mem_of_getElem? (i := 917) (by decide +kernel), List.mem_of_getElem? (i := 918) (by decide +kernel)⟩
theorem lw_p46 : lw_okq (⟨"ThrownSacksModel", "inSacks", "(Z)I"⟩, 42) := ⟨⟨by decide +kernel, by decide +kernel⟩, List.mem_of_getElem? (i := 552) (by decide +kernel), List.mem_of_getElem? (i := 921) (by decide +kernel), List.mem_of_getElem? (i := 922) (by decide +kernel)⟩
theorem lw_p47 : lw_okq (⟨"ThrownSacksModel", "mixHook", "(I)V"⟩, 42) := ⟨⟨by decide +kernel, by decide +kernel⟩, List.mem_of_getElem? (i := 552) (by decide +kernel), List.mem_of_getElem? (i := 930) (by decide +kernel), List.mem_of_getElem? (i := 931) (by decide +kernel)⟩
def lw_privs_3 : List (MethodName × Nat) := [(⟨"ThrownSacksModel", "ways", "()I"⟩, 42), (⟨"ThrownSacksModel", "hangBy", "(I)V"⟩, 42), (⟨"ThrownSacksModel", "takesBy", "()I"⟩, 42), (⟨"ThrownSacksModel", "takesOn", "(I)I"⟩, 42), (⟨"ThrownSacksModel", "exchanges", "()I"⟩, 42), (⟨"ThrownSacksModel", "hookOf", "(II)I"⟩, 42), (⟨"ThrownSacksModel", "hungNow", "()I"⟩, 42), (⟨"ThrownSacksModel", "couldHang", "()Z"⟩, 42), (⟨"ThrownSacksModel", "whereNow", "(I)I"⟩, 42), (⟨"ThrownSacksModel", "shiftsNow", "(III)I"⟩, 42), (⟨"ThrownSacksModel", "goParcel", "()V"⟩, 42), (⟨"ThrownSacksModel", "draw", "(I)I"⟩, 42), (⟨"ThrownSacksModel", "wouldBeFull", "(I)Z"⟩, 42), (⟨"ThrownSacksModel", "howMany", "(I)I"⟩, 42), (⟨"ThrownSacksModel", "inSacks", "(Z)I"⟩, 42), (⟨"ThrownSacksModel", "mixHook", "(I)V"⟩, 42)]
theorem lw_r3 : ∀ q ∈ lw_privs_3, lw_okq q := List.forall_mem_cons.mpr ⟨lw_p32, List.forall_mem_cons.mpr ⟨lw_p33, List.forall_mem_cons.mpr ⟨lw_p34, List.forall_mem_cons.mpr ⟨lw_p35, List.forall_mem_cons.mpr ⟨lw_p36, List.forall_mem_cons.mpr ⟨lw_p37, List.forall_mem_cons.mpr ⟨lw_p38, List.forall_mem_cons.mpr ⟨lw_p39, List.forall_mem_cons.mpr ⟨lw_p40, List.forall_mem_cons.mpr ⟨lw_p41, List.forall_mem_cons.mpr ⟨lw_p42, List.forall_mem_cons.mpr ⟨lw_p43, List.forall_mem_cons.mpr ⟨lw_p44, List.forall_mem_cons.mpr ⟨lw_p45, List.forall_mem_cons.mpr ⟨lw_p46, List.forall_mem_cons.mpr ⟨lw_p47, fun _ h => absurd h List.not_mem_nil⟩⟩⟩⟩⟩⟩⟩⟩⟩⟩⟩⟩⟩⟩⟩⟩
theorem lw_p48 : lw_okq (⟨"ThrownSacksModel", "mix", "(J)V"⟩, 42) := ⟨⟨by decide +kernel, by decide +kernel⟩, List.mem_of_getElem? (i := 552) (by decide +kernel), List.mem_of_getElem? (i := 934) (by decide +kernel), List.mem_of_getElem? (i := 935) (by decide +kernel)⟩
theorem lw_p49 : lw_okq (⟨"ThrownSacksModel", "mixFloor", "()V"⟩, 42) := ⟨⟨by decide +kernel, by decide +kernel⟩, List.mem_of_getElem? (i := 552) (by decide +kernel), List.mem_of_getElem? (i := 939) (by decide +kernel), List.mem_of_getElem? (i := 940) (by decide +kernel)⟩
def lw_privs_4 : List (MethodName × Nat) := [(⟨"ThrownSacksModel", "mix", "(J)V"⟩, 42), (⟨"ThrownSacksModel", "mixFloor", "()V"⟩, 42)]
theorem lw_r4 : ∀ q ∈ lw_privs_4, lw_okq q := List.forall_mem_cons.mpr ⟨lw_p48, List.forall_mem_cons.mpr ⟨lw_p49, fun _ h => absurd h List.not_mem_nil⟩⟩
def lw_privs : List (MethodName × Nat) := lw_privs_1 ++ (lw_privs_2 ++ (lw_privs_3 ++ (lw_privs_4)))
def lw_tbl : List Cond := k2_sels lw_privs ++ tables_1
theorem lw_privs_ok : ∀ q ∈ lw_privs, lw_okq q := by
  show ∀ q ∈ lw_privs_1 ++ (lw_privs_2 ++ (lw_privs_3 ++ (lw_privs_4))), lw_okq q
  exact List.forall_mem_append.mpr ⟨lw_r1, List.forall_mem_append.mpr ⟨lw_r2, List.forall_mem_append.mpr ⟨lw_r3, lw_r4⟩⟩⟩
end
section
/-! ===== BEGIN words of one list among another's, by their places ===== -/
theorem goodIn_r {big : List Cond} (ws : List Cond) (ps : List Nat) (hp : ws = ps.filterMap (fun i => big[i]?)) (h : ws.all goodWord = true) : GoodIn big ws := by
  intro w hw
  have h1 := List.all_eq_true.mp h w hw
  rw [hp] at hw
  obtain ⟨i, -, hi⟩ := List.mem_filterMap.mp hw
  have hm : w ∈ big := by first | exact List.mem_of_getElem? hi | exact List.getElem?_mem hi
  exact ⟨hm, good_of_word h1⟩
theorem goodIn_app {big a b : List Cond} (ha : GoodIn big a) (hb : GoodIn big b) : GoodIn big (a ++ b) := fun w h => (List.mem_append.mp h).elim (ha w) (hb w)
theorem goodIn_ca {big a b : List Cond} {c : Cond} (ha : GoodIn big (c :: a)) (hb : GoodIn big b) : GoodIn big (c :: (a ++ b)) := fun w h => (List.mem_cons.mp h).elim (fun e => ha w (List.mem_cons.mpr (Or.inl e))) (fun h => (List.mem_append.mp h).elim (fun h => ha w (List.mem_cons.mpr (Or.inr h))) (hb w))
theorem goodIn_sub {big ws : List Cond} (hm : ∀ w ∈ ws, w ∈ big) (h : ws.all goodWord = true) : GoodIn big ws := fun w hw => ⟨hm w hw, good_of_word (List.all_eq_true.mp h w hw)⟩
/-! ===== END ===== -/

/-! ===== BEGIN printed: names, fields, word lists, decode rows ===== -/
def RX0 : String := "ThrownSacks$Best"
def TX0 : u_T := fun k => match k with
  | 0 => ("ThrownSacks$Best", "towns", "[I", true)
  | 1 => ("ThrownSacks$Best", "less", "[I", true)
  | 2 => ("ThrownSacks$Best", "rest", "[I", true)
  | _ => ("ThrownSacks$Best", "total", "I", false)
def tyX0 : Nat → FieldType := fun k => match k with
  | 0 => .array .int
  | 1 => .array .int
  | 2 => .array .int
  | _ => .int
abbrev wsX00 : List Cond := u_ws RX0 TX0 4
theorem nmX0 : ∀ a, a < 4 → ∀ b, b < 4 → a ≠ b → (TX0 a).2.1 ≠ (TX0 b).2.1 := by decide +kernel
theorem tyX0_ok : ∀ k, k < 4 → parseFieldDescriptor (TX0 k).2.2.1 = some (tyX0 k) := by decide +kernel
abbrev cX0_init : ByteArray := prog_2_method_1_code
def yX0_init : MethodName := ⟨RX0, "<init>", "()V"⟩
abbrev cX0_seek : ByteArray := prog_2_method_2_code
def yX0_seek : MethodName := ⟨RX0, "seek", "(LThrownSacks$Plan;)V"⟩
abbrev cX0_bestTown : ByteArray := prog_2_method_3_code
def yX0_bestTown : MethodName := ⟨RX0, "bestTown", "(LThrownSacks$Plan;I)I"⟩
abbrev cX0_withTown : ByteArray := prog_2_method_4_code
def yX0_withTown : MethodName := ⟨RX0, "withTown", "(LThrownSacks$Plan;II)I"⟩
abbrev cX0_exchangesFrom : ByteArray := prog_2_method_5_code
def yX0_exchangesFrom : MethodName := ⟨RX0, "exchangesFrom", "(LThrownSacks$Standing;I)I"⟩
def RX1 : String := "ThrownSacks$Page"
def TX1 : u_T := fun k => match k with
  | 0 => ("ThrownSacks$Page", "codes", "[I", true)
  | _ => ("ThrownSacks$Page", "size", "I", false)
def tyX1 : Nat → FieldType := fun k => match k with
  | 0 => .array .int
  | _ => .int
abbrev wsX10 : List Cond := u_ws RX1 TX1 2
theorem nmX1 : ∀ a, a < 2 → ∀ b, b < 2 → a ≠ b → (TX1 a).2.1 ≠ (TX1 b).2.1 := by decide +kernel
theorem tyX1_ok : ∀ k, k < 2 → parseFieldDescriptor (TX1 k).2.2.1 = some (tyX1 k) := by decide +kernel
abbrev cX1_init : ByteArray := prog_3_method_1_code
def yX1_init : MethodName := ⟨RX1, "<init>", "()V"⟩
abbrev cX1_add : ByteArray := prog_3_method_2_code
def yX1_add : MethodName := ⟨RX1, "add", "(I)V"⟩
abbrev cX1_codeAt : ByteArray := prog_3_method_3_code
def yX1_codeAt : MethodName := ⟨RX1, "codeAt", "(I)I"⟩
abbrev cX1_digitAt : ByteArray := prog_3_method_4_code
def yX1_digitAt : MethodName := ⟨RX1, "digitAt", "(I)I"⟩
abbrev cX1_hooksTold : ByteArray := prog_3_method_5_code
def yX1_hooksTold : MethodName := ⟨RX1, "hooksTold", "()I"⟩
abbrev cX1_isFloor : ByteArray := prog_3_method_6_code
def yX1_isFloor : MethodName := ⟨RX1, "isFloor", "()Z"⟩
abbrev cX1_firstWrong : ByteArray := prog_3_method_7_code
def yX1_firstWrong : MethodName := ⟨RX1, "firstWrong", "()I"⟩
abbrev cX1_canTellOfHooks : ByteArray := prog_3_method_8_code
def yX1_canTellOfHooks : MethodName := ⟨RX1, "canTellOfHooks", "(II)Z"⟩
def RX2 : String := "ThrownSacks$Plan"
def TX2 : u_T := fun k => match k with
  | 0 => ("ThrownSacks$Plan", "yards", "[I", true)
  | 1 => ("ThrownSacks$Plan", "room", "[I", true)
  | 2 => ("ThrownSacks$Plan", "often", "[I", true)
  | _ => ("ThrownSacks$Plan", "hooks", "I", false)
def tyX2 : Nat → FieldType := fun k => match k with
  | 0 => .array .int
  | 1 => .array .int
  | 2 => .array .int
  | _ => .int
abbrev wsX20 : List Cond := u_ws RX2 TX2 4
theorem nmX2 : ∀ a, a < 4 → ∀ b, b < 4 → a ≠ b → (TX2 a).2.1 ≠ (TX2 b).2.1 := by decide +kernel
theorem tyX2_ok : ∀ k, k < 4 → parseFieldDescriptor (TX2 k).2.2.1 = some (tyX2 k) := by decide +kernel
abbrev cX2_init : ByteArray := prog_4_method_1_code
def yX2_init : MethodName := ⟨RX2, "<init>", "()V"⟩
abbrev cX2_read : ByteArray := prog_4_method_2_code
def yX2_read : MethodName := ⟨RX2, "read", "(LThrownSacks$Page;)V"⟩
abbrev cX2_oftenOf : ByteArray := prog_4_method_3_code
def yX2_oftenOf : MethodName := ⟨RX2, "oftenOf", "(I)I"⟩
def RX3 : String := "ThrownSacks$Row"
def TX3 : u_T := fun k => match k with
  | 0 => ("ThrownSacks$Row", "kinds", "[I", true)
  | 1 => ("ThrownSacks$Row", "towns", "[I", true)
  | 2 => ("ThrownSacks$Row", "harms", "[Z", true)
  | _ => ("ThrownSacks$Row", "size", "I", false)
def tyX3 : Nat → FieldType := fun k => match k with
  | 0 => .array .int
  | 1 => .array .int
  | 2 => .array .boolean
  | _ => .int
abbrev wsX30 : List Cond := u_ws RX3 TX3 4
theorem nmX3 : ∀ a, a < 4 → ∀ b, b < 4 → a ≠ b → (TX3 a).2.1 ≠ (TX3 b).2.1 := by decide +kernel
theorem tyX3_ok : ∀ k, k < 4 → parseFieldDescriptor (TX3 k).2.2.1 = some (tyX3 k) := by decide +kernel
abbrev cX3_init : ByteArray := prog_5_method_1_code
def yX3_init : MethodName := ⟨RX3, "<init>", "()V"⟩
abbrev cX3_add : ByteArray := prog_5_method_2_code
def yX3_add : MethodName := ⟨RX3, "add", "(IIZ)V"⟩
abbrev cX3_kindAt : ByteArray := prog_5_method_3_code
def yX3_kindAt : MethodName := ⟨RX3, "kindAt", "(I)I"⟩
abbrev cX3_townAt : ByteArray := prog_5_method_4_code
def yX3_townAt : MethodName := ⟨RX3, "townAt", "(I)I"⟩
abbrev cX3_dropFirst : ByteArray := prog_5_method_5_code
def yX3_dropFirst : MethodName := ⟨RX3, "dropFirst", "()V"⟩
abbrev cX3_ofKind : ByteArray := prog_5_method_6_code
def yX3_ofKind : MethodName := ⟨RX3, "ofKind", "(I)I"⟩
abbrev cX3_notFor : ByteArray := prog_5_method_7_code
def yX3_notFor : MethodName := ⟨RX3, "notFor", "(I)I"⟩
abbrev cX3_harmGlass : ByteArray := prog_5_method_8_code
def yX3_harmGlass : MethodName := ⟨RX3, "harmGlass", "()I"⟩
abbrev cX3_copy : ByteArray := prog_5_method_9_code
def yX3_copy : MethodName := ⟨RX3, "copy", "(LThrownSacks$Row;)V"⟩
def RX4 : String := "ThrownSacks$Standing"
def TX4 : u_T := fun k => match k with
  | 0 => ("ThrownSacks$Standing", "towns", "[I", true)
  | 1 => ("ThrownSacks$Standing", "sacks", "[LThrownSacks$Row;", true)
  | 2 => ("ThrownSacks$Standing", "belt", "LThrownSacks$Row;", true)
  | 3 => ("ThrownSacks$Standing", "foundTowns", "[I", true)
  | 4 => ("ThrownSacks$Standing", "foundIn", "[I", true)
  | 5 => ("ThrownSacks$Standing", "found", "I", false)
  | 6 => ("ThrownSacks$Standing", "seconds", "I", false)
  | _ => ("ThrownSacks$Standing", "harmed", "I", false)
def tyX4 : Nat → FieldType := fun k => match k with
  | 0 => .array .int
  | 1 => .array (.object "ThrownSacks$Row")
  | 2 => .object "ThrownSacks$Row"
  | 3 => .array .int
  | 4 => .array .int
  | 5 => .int
  | 6 => .int
  | _ => .int
abbrev wsX40 : List Cond := u_ws RX4 TX4 8
theorem nmX4 : ∀ a, a < 8 → ∀ b, b < 8 → a ≠ b → (TX4 a).2.1 ≠ (TX4 b).2.1 := by decide +kernel
theorem tyX4_ok : ∀ k, k < 8 → parseFieldDescriptor (TX4 k).2.2.1 = some (tyX4 k) := by decide +kernel
abbrev cX4_init : ByteArray := prog_6_method_1_code
def yX4_init : MethodName := ⟨RX4, "<init>", "()V"⟩
abbrev cX4_start : ByteArray := prog_6_method_2_code
def yX4_start : MethodName := ⟨RX4, "start", "()V"⟩
abbrev cX4_copy : ByteArray := prog_6_method_3_code
def yX4_copy : MethodName := ⟨RX4, "copy", "(LThrownSacks$Standing;)V"⟩
abbrev cX4_putFirst : ByteArray := prog_6_method_4_code
def yX4_putFirst : MethodName := ⟨RX4, "putFirst", "(IZ)V"⟩
abbrev cX4_swap : ByteArray := prog_6_method_5_code
def yX4_swap : MethodName := ⟨RX4, "swap", "(II)V"⟩
abbrev cX4_addFound : ByteArray := prog_6_method_6_code
def yX4_addFound : MethodName := ⟨RX4, "addFound", "(II)V"⟩
abbrev cX4_hookOf : ByteArray := prog_6_method_7_code
def yX4_hookOf : MethodName := ⟨RX4, "hookOf", "(I)I"⟩
abbrev cX4_inSacks : ByteArray := prog_6_method_8_code
def yX4_inSacks : MethodName := ⟨RX4, "inSacks", "(I)I"⟩
abbrev cX4_wrongInSacks : ByteArray := prog_6_method_9_code
def yX4_wrongInSacks : MethodName := ⟨RX4, "wrongInSacks", "(I)I"⟩
def RX5 : String := "ThrownSacks$Trial"
def TX5 : u_T := fun k => match k with
  | 0 => ("ThrownSacks$Trial", "held", "[I", true)
  | 1 => ("ThrownSacks$Trial", "seed", "I", false)
  | 2 => ("ThrownSacks$Trial", "cameNext", "I", false)
  | _ => ("ThrownSacks$Trial", "layBeside", "I", false)
def tyX5 : Nat → FieldType := fun k => match k with
  | 0 => .array .int
  | 1 => .int
  | 2 => .int
  | _ => .int
abbrev wsX50 : List Cond := u_ws RX5 TX5 4
theorem nmX5 : ∀ a, a < 4 → ∀ b, b < 4 → a ≠ b → (TX5 a).2.1 ≠ (TX5 b).2.1 := by decide +kernel
theorem tyX5_ok : ∀ k, k < 4 → parseFieldDescriptor (TX5 k).2.2.1 = some (tyX5 k) := by decide +kernel
abbrev cX5_init : ByteArray := prog_7_method_1_code
def yX5_init : MethodName := ⟨RX5, "<init>", "()V"⟩
abbrev cX5_run : ByteArray := prog_7_method_2_code
def yX5_run : MethodName := ⟨RX5, "run", "(LThrownSacks$Plan;LThrownSacks$Standing;II)V"⟩
abbrev cX5_throwAt : ByteArray := prog_7_method_3_code
def yX5_throwAt : MethodName := ⟨RX5, "throwAt", "(LThrownSacks$Plan;I)V"⟩
abbrev cX5_draw : ByteArray := prog_7_method_4_code
def yX5_draw : MethodName := ⟨RX5, "draw", "(I)I"⟩
def RX6 : String := "ThrownSacks$Ways"
def TX6 : u_T := fun k => match k with
  | 0 => ("ThrownSacks$Ways", "towns", "[I", true)
  | 1 => ("ThrownSacks$Ways", "beyond", "[I", true)
  | 2 => ("ThrownSacks$Ways", "places", "[I", true)
  | 3 => ("ThrownSacks$Ways", "counted", "Z", false)
  | _ => ("ThrownSacks$Ways", "many", "I", false)
def tyX6 : Nat → FieldType := fun k => match k with
  | 0 => .array .int
  | 1 => .array .int
  | 2 => .array .int
  | 3 => .boolean
  | _ => .int
abbrev wsX60 : List Cond := u_ws RX6 TX6 5
theorem nmX6 : ∀ a, a < 5 → ∀ b, b < 5 → a ≠ b → (TX6 a).2.1 ≠ (TX6 b).2.1 := by decide +kernel
theorem tyX6_ok : ∀ k, k < 5 → parseFieldDescriptor (TX6 k).2.2.1 = some (tyX6 k) := by decide +kernel
abbrev cX6_init : ByteArray := prog_8_method_1_code
def yX6_init : MethodName := ⟨RX6, "<init>", "()V"⟩
abbrev cX6_seek : ByteArray := prog_8_method_2_code
def yX6_seek : MethodName := ⟨RX6, "seek", "(LThrownSacks$Standing;I)V"⟩
abbrev cX6_askAllFound : ByteArray := prog_8_method_3_code
def yX6_askAllFound : MethodName := ⟨RX6, "askAllFound", "(LThrownSacks$Standing;)Z"⟩
abbrev cX6_hangFrom : ByteArray := prog_8_method_4_code
def yX6_hangFrom : MethodName := ⟨RX6, "hangFrom", "(LThrownSacks$Ways;III)V"⟩
abbrev cX6_canHang : ByteArray := prog_8_method_5_code
def yX6_canHang : MethodName := ⟨RX6, "canHang", "(III)Z"⟩
abbrev cX6_keep : ByteArray := prog_8_method_6_code
def yX6_keep : MethodName := ⟨RX6, "keep", "(I)V"⟩
def RX7 : String := "ThrownSacks"
def TX7 : u_T := fun k => match k with
  | 0 => ("ThrownSacks", "page", "LThrownSacks$Page;", true)
  | 1 => ("ThrownSacks", "plan", "LThrownSacks$Plan;", true)
  | 2 => ("ThrownSacks", "now", "LThrownSacks$Standing;", true)
  | 3 => ("ThrownSacks", "kept", "LThrownSacks$Standing;", true)
  | 4 => ("ThrownSacks", "best", "LThrownSacks$Best;", true)
  | 5 => ("ThrownSacks", "ways", "LThrownSacks$Ways;", true)
  | 6 => ("ThrownSacks", "trial", "LThrownSacks$Trial;", true)
  | 7 => ("ThrownSacks", "imageKept", "Z", false)
  | _ => ("ThrownSacks", "floorsRead", "I", false)
def tyX7 : Nat → FieldType := fun k => match k with
  | 0 => .object "ThrownSacks$Page"
  | 1 => .object "ThrownSacks$Plan"
  | 2 => .object "ThrownSacks$Standing"
  | 3 => .object "ThrownSacks$Standing"
  | 4 => .object "ThrownSacks$Best"
  | 5 => .object "ThrownSacks$Ways"
  | 6 => .object "ThrownSacks$Trial"
  | 7 => .boolean
  | _ => .int
abbrev wsX70 : List Cond := u_ws RX7 TX7 9
theorem nmX7 : ∀ a, a < 9 → ∀ b, b < 9 → a ≠ b → (TX7 a).2.1 ≠ (TX7 b).2.1 := by decide +kernel
theorem tyX7_ok : ∀ k, k < 9 → parseFieldDescriptor (TX7 k).2.2.1 = some (tyX7 k) := by decide +kernel
abbrev cX7_init : ByteArray := prog_1_method_1_code
def yX7_init : MethodName := ⟨RX7, "<init>", "()V"⟩
abbrev cX7_letter : ByteArray := prog_1_method_2_code
def yX7_letter : MethodName := ⟨RX7, "letter", "(I)I"⟩
abbrev cX7_blank : ByteArray := prog_1_method_3_code
def yX7_blank : MethodName := ⟨RX7, "blank", "()I"⟩
abbrev cX7_fault : ByteArray := prog_1_method_4_code
def yX7_fault : MethodName := ⟨RX7, "fault", "()I"⟩
abbrev cX7_floor : ByteArray := prog_1_method_5_code
def yX7_floor : MethodName := ⟨RX7, "floor", "()I"⟩
abbrev cX7_hook : ByteArray := prog_1_method_6_code
def yX7_hook : MethodName := ⟨RX7, "hook", "(II)I"⟩
abbrev cX7_parcel : ByteArray := prog_1_method_7_code
def yX7_parcel : MethodName := ⟨RX7, "parcel", "(II)I"⟩
abbrev cX7_belt : ByteArray := prog_1_method_8_code
def yX7_belt : MethodName := ⟨RX7, "belt", "(II)I"⟩
abbrev cX7_as : ByteArray := prog_1_method_9_code
def yX7_as : MethodName := ⟨RX7, "as", "(II)I"⟩
abbrev cX7_toss : ByteArray := prog_1_method_10_code
def yX7_toss : MethodName := ⟨RX7, "toss", "(II)I"⟩
abbrev cX7_carry : ByteArray := prog_1_method_11_code
def yX7_carry : MethodName := ⟨RX7, "carry", "(I)I"⟩
abbrev cX7_change : ByteArray := prog_1_method_12_code
def yX7_change : MethodName := ⟨RX7, "change", "(I)I"⟩
abbrev cX7_exchange : ByteArray := prog_1_method_13_code
def yX7_exchange : MethodName := ⟨RX7, "exchange", "(II)I"⟩
abbrev cX7_odds : ByteArray := prog_1_method_14_code
def yX7_odds : MethodName := ⟨RX7, "odds", "(III)I"⟩
abbrev cX7_hanging : ByteArray := prog_1_method_15_code
def yX7_hanging : MethodName := ⟨RX7, "hanging", "(I)I"⟩
abbrev cX7_found : ByteArray := prog_1_method_16_code
def yX7_found : MethodName := ⟨RX7, "found", "(II)I"⟩
abbrev cX7_forget : ByteArray := prog_1_method_17_code
def yX7_forget : MethodName := ⟨RX7, "forget", "()I"⟩
abbrev cX7_hung : ByteArray := prog_1_method_18_code
def yX7_hung : MethodName := ⟨RX7, "hung", "()I"⟩
abbrev cX7_where : ByteArray := prog_1_method_19_code
def yX7_where : MethodName := ⟨RX7, "where", "(I)I"⟩
abbrev cX7_shifts : ByteArray := prog_1_method_20_code
def yX7_shifts : MethodName := ⟨RX7, "shifts", "(III)I"⟩
abbrev cX7_image : ByteArray := prog_1_method_21_code
def yX7_image : MethodName := ⟨RX7, "image", "()I"⟩
abbrev cX7_restore : ByteArray := prog_1_method_22_code
def yX7_restore : MethodName := ⟨RX7, "restore", "()I"⟩
abbrev cX7_count : ByteArray := prog_1_method_23_code
def yX7_count : MethodName := ⟨RX7, "count", "(I)I"⟩
abbrev cX7_digest : ByteArray := prog_1_method_24_code
def yX7_digest : MethodName := ⟨RX7, "digest", "()J"⟩
abbrev cX7_withHook : ByteArray := prog_1_method_25_code
def yX7_withHook : MethodName := ⟨RX7, "withHook", "(JI)J"⟩
abbrev cX7_withHanging : ByteArray := prog_1_method_26_code
def yX7_withHanging : MethodName := ⟨RX7, "withHanging", "(J)J"⟩
abbrev cX7_isKnown : ByteArray := prog_1_method_27_code
def yX7_isKnown : MethodName := ⟨RX7, "isKnown", "(I)Z"⟩
abbrev cX7_isFull : ByteArray := prog_1_method_28_code
def yX7_isFull : MethodName := ⟨RX7, "isFull", "(I)Z"⟩
abbrev cX7_tenthsAt : ByteArray := prog_1_method_29_code
def yX7_tenthsAt : MethodName := ⟨RX7, "tenthsAt", "(III)I"⟩
abbrev cX7_isKind : ByteArray := prog_1_method_30_code
def yX7_isKind : MethodName := ⟨RX7, "isKind", "(I)Z"⟩
abbrev cX7_isA : ByteArray := prog_1_method_31_code
def yX7_isA : MethodName := ⟨RX7, "isA", "(II)Z"⟩
abbrev cX7_gripOf : ByteArray := prog_1_method_32_code
def yX7_gripOf : MethodName := ⟨RX7, "gripOf", "(I)I"⟩
abbrev cX7_nextTo : ByteArray := prog_1_method_33_code
def yX7_nextTo : MethodName := ⟨RX7, "nextTo", "(II)I"⟩
abbrev cX7_carrySeconds : ByteArray := prog_1_method_34_code
def yX7_carrySeconds : MethodName := ⟨RX7, "carrySeconds", "(I)I"⟩
abbrev cX7_carryTenths : ByteArray := prog_1_method_35_code
def yX7_carryTenths : MethodName := ⟨RX7, "carryTenths", "(I)I"⟩
abbrev cX7_tenthsOf : ByteArray := prog_1_method_36_code
def yX7_tenthsOf : MethodName := ⟨RX7, "tenthsOf", "(IIZI)I"⟩
abbrev cX7_costOf : ByteArray := prog_1_method_37_code
def yX7_costOf : MethodName := ⟨RX7, "costOf", "(IIZ)I"⟩
def RX8 : String := "ThrownSacksModel"
def TX8 : u_T := fun k => match k with
  | 0 => ("ThrownSacksModel", "floors", "I", false)
  | 1 => ("ThrownSacksModel", "hooks", "I", false)
  | 2 => ("ThrownSacksModel", "yardsOf", "[I", true)
  | 3 => ("ThrownSacksModel", "roomOf", "[I", true)
  | 4 => ("ThrownSacksModel", "oftenOf", "[I", true)
  | 5 => ("ThrownSacksModel", "hangsOn", "[I", true)
  | 6 => ("ThrownSacksModel", "manyIn", "[I", true)
  | 7 => ("ThrownSacksModel", "wrongIn", "[I", true)
  | 8 => ("ThrownSacksModel", "glassIn", "[I", true)
  | 9 => ("ThrownSacksModel", "wholeIn", "[I", true)
  | 10 => ("ThrownSacksModel", "onBelt", "I", false)
  | 11 => ("ThrownSacksModel", "beltKind", "[I", true)
  | 12 => ("ThrownSacksModel", "beltTown", "[I", true)
  | 13 => ("ThrownSacksModel", "seconds", "I", false)
  | 14 => ("ThrownSacksModel", "harmed", "I", false)
  | 15 => ("ThrownSacksModel", "found", "I", false)
  | 16 => ("ThrownSacksModel", "foundTown", "[I", true)
  | 17 => ("ThrownSacksModel", "foundIn", "[I", true)
  | 18 => ("ThrownSacksModel", "pageLength", "I", false)
  | 19 => ("ThrownSacksModel", "page", "[B", true)
  | 20 => ("ThrownSacksModel", "faultAt", "I", false)
  | 21 => ("ThrownSacksModel", "isWhole", "Z", false)
  | 22 => ("ThrownSacksModel", "newMany", "I", false)
  | 23 => ("ThrownSacksModel", "seedNow", "J", false)
  | 24 => ("ThrownSacksModel", "cameNext", "I", false)
  | 25 => ("ThrownSacksModel", "layBeside", "I", false)
  | 26 => ("ThrownSacksModel", "isKept", "Z", false)
  | 27 => ("ThrownSacksModel", "keptFloor", "I", false)
  | 28 => ("ThrownSacksModel", "keptBelt", "I", false)
  | 29 => ("ThrownSacksModel", "keptSeconds", "I", false)
  | 30 => ("ThrownSacksModel", "keptHarmed", "I", false)
  | 31 => ("ThrownSacksModel", "keptFound", "I", false)
  | 32 => ("ThrownSacksModel", "keptHangs", "[I", true)
  | 33 => ("ThrownSacksModel", "keptMany", "[I", true)
  | 34 => ("ThrownSacksModel", "keptWrong", "[I", true)
  | 35 => ("ThrownSacksModel", "keptGlass", "[I", true)
  | 36 => ("ThrownSacksModel", "keptWhole", "[I", true)
  | 37 => ("ThrownSacksModel", "keptKind", "[I", true)
  | 38 => ("ThrownSacksModel", "keptTown", "[I", true)
  | 39 => ("ThrownSacksModel", "keptFoundTown", "[I", true)
  | 40 => ("ThrownSacksModel", "keptFoundIn", "[I", true)
  | _ => ("ThrownSacksModel", "h", "J", false)
def tyX8 : Nat → FieldType := fun k => match k with
  | 0 => .int
  | 1 => .int
  | 2 => .array .int
  | 3 => .array .int
  | 4 => .array .int
  | 5 => .array .int
  | 6 => .array .int
  | 7 => .array .int
  | 8 => .array .int
  | 9 => .array .int
  | 10 => .int
  | 11 => .array .int
  | 12 => .array .int
  | 13 => .int
  | 14 => .int
  | 15 => .int
  | 16 => .array .int
  | 17 => .array .int
  | 18 => .int
  | 19 => .array .byte
  | 20 => .int
  | 21 => .boolean
  | 22 => .int
  | 23 => .long
  | 24 => .int
  | 25 => .int
  | 26 => .boolean
  | 27 => .int
  | 28 => .int
  | 29 => .int
  | 30 => .int
  | 31 => .int
  | 32 => .array .int
  | 33 => .array .int
  | 34 => .array .int
  | 35 => .array .int
  | 36 => .array .int
  | 37 => .array .int
  | 38 => .array .int
  | 39 => .array .int
  | 40 => .array .int
  | _ => .long
abbrev wsX80 : List Cond := u_ws RX8 TX8 42
theorem nmX8 : ∀ a, a < 42 → ∀ b, b < 42 → a ≠ b → (TX8 a).2.1 ≠ (TX8 b).2.1 := by decide +kernel
theorem tyX8_ok : ∀ k, k < 42 → parseFieldDescriptor (TX8 k).2.2.1 = some (tyX8 k) := by decide +kernel
abbrev cX8_init : ByteArray := prog_10_method_1_code
def yX8_init : MethodName := ⟨RX8, "<init>", "()V"⟩
abbrev cX8_within : ByteArray := prog_10_method_3_code
def yX8_within : MethodName := ⟨RX8, "within", "(III)Z"⟩
abbrev cX8_letter : ByteArray := prog_10_method_4_code
def yX8_letter : MethodName := ⟨RX8, "letter", "(I)I"⟩
abbrev cX8_blank : ByteArray := prog_10_method_5_code
def yX8_blank : MethodName := ⟨RX8, "blank", "()I"⟩
abbrev cX8_isFigure : ByteArray := prog_10_method_6_code
def yX8_isFigure : MethodName := ⟨RX8, "isFigure", "(III)Z"⟩
abbrev cX8_isSign : ByteArray := prog_10_method_7_code
def yX8_isSign : MethodName := ⟨RX8, "isSign", "(II)Z"⟩
abbrev cX8_read : ByteArray := prog_10_method_8_code
def yX8_read : MethodName := ⟨RX8, "read", "()V"⟩
abbrev cX8_readOften : ByteArray := prog_10_method_9_code
def yX8_readOften : MethodName := ⟨RX8, "readOften", "(I)V"⟩
abbrev cX8_fault : ByteArray := prog_10_method_10_code
def yX8_fault : MethodName := ⟨RX8, "fault", "()I"⟩
abbrev cX8_floor : ByteArray := prog_10_method_11_code
def yX8_floor : MethodName := ⟨RX8, "floor", "()I"⟩
abbrev cX8_empty : ByteArray := prog_10_method_12_code
def yX8_empty : MethodName := ⟨RX8, "empty", "(I)V"⟩
abbrev cX8_isHook : ByteArray := prog_10_method_13_code
def yX8_isHook : MethodName := ⟨RX8, "isHook", "(I)Z"⟩
abbrev cX8_hookNow : ByteArray := prog_10_method_14_code
def yX8_hookNow : MethodName := ⟨RX8, "hookNow", "(II)I"⟩
abbrev cX8_hook : ByteArray := prog_10_method_15_code
def yX8_hook : MethodName := ⟨RX8, "hook", "(II)I"⟩
abbrev cX8_gripOf : ByteArray := prog_10_method_16_code
def yX8_gripOf : MethodName := ⟨RX8, "gripOf", "(I)I"⟩
abbrev cX8_parcel : ByteArray := prog_10_method_17_code
def yX8_parcel : MethodName := ⟨RX8, "parcel", "(II)I"⟩
abbrev cX8_isPlace : ByteArray := prog_10_method_18_code
def yX8_isPlace : MethodName := ⟨RX8, "isPlace", "(I)Z"⟩
abbrev cX8_beltNow : ByteArray := prog_10_method_19_code
def yX8_beltNow : MethodName := ⟨RX8, "beltNow", "(II)I"⟩
abbrev cX8_belt : ByteArray := prog_10_method_20_code
def yX8_belt : MethodName := ⟨RX8, "belt", "(II)I"⟩
abbrev cX8_as : ByteArray := prog_10_method_21_code
def yX8_as : MethodName := ⟨RX8, "as", "(II)I"⟩
abbrev cX8_nextOf : ByteArray := prog_10_method_22_code
def yX8_nextOf : MethodName := ⟨RX8, "nextOf", "(I)I"⟩
abbrev cX8_tenthsIn : ByteArray := prog_10_method_23_code
def yX8_tenthsIn : MethodName := ⟨RX8, "tenthsIn", "(II)I"⟩
abbrev cX8_tenthsNext : ByteArray := prog_10_method_24_code
def yX8_tenthsNext : MethodName := ⟨RX8, "tenthsNext", "(II)I"⟩
abbrev cX8_isFull : ByteArray := prog_10_method_25_code
def yX8_isFull : MethodName := ⟨RX8, "isFull", "(I)Z"⟩
abbrev cX8_tenthsOf : ByteArray := prog_10_method_26_code
def yX8_tenthsOf : MethodName := ⟨RX8, "tenthsOf", "(III)I"⟩
abbrev cX8_walk : ByteArray := prog_10_method_27_code
def yX8_walk : MethodName := ⟨RX8, "walk", "(I)I"⟩
abbrev cX8_comes : ByteArray := prog_10_method_28_code
def yX8_comes : MethodName := ⟨RX8, "comes", "(IZ)V"⟩
abbrev cX8_toss : ByteArray := prog_10_method_29_code
def yX8_toss : MethodName := ⟨RX8, "toss", "(II)I"⟩
abbrev cX8_carry : ByteArray := prog_10_method_30_code
def yX8_carry : MethodName := ⟨RX8, "carry", "(I)I"⟩
abbrev cX8_change : ByteArray := prog_10_method_31_code
def yX8_change : MethodName := ⟨RX8, "change", "(I)I"⟩
abbrev cX8_exchange : ByteArray := prog_10_method_32_code
def yX8_exchange : MethodName := ⟨RX8, "exchange", "(II)I"⟩
abbrev cX8_costBy : ByteArray := prog_10_method_33_code
def yX8_costBy : MethodName := ⟨RX8, "costBy", "(IIII)I"⟩
abbrev cX8_costNow : ByteArray := prog_10_method_34_code
def yX8_costNow : MethodName := ⟨RX8, "costNow", "(II)I"⟩
abbrev cX8_oddsNow : ByteArray := prog_10_method_35_code
def yX8_oddsNow : MethodName := ⟨RX8, "oddsNow", "(III)I"⟩
abbrev cX8_odds : ByteArray := prog_10_method_36_code
def yX8_odds : MethodName := ⟨RX8, "odds", "(III)I"⟩
abbrev cX8_ways : ByteArray := prog_10_method_37_code
def yX8_ways : MethodName := ⟨RX8, "ways", "()I"⟩
abbrev cX8_hangBy : ByteArray := prog_10_method_38_code
def yX8_hangBy : MethodName := ⟨RX8, "hangBy", "(I)V"⟩
abbrev cX8_takesOn : ByteArray := prog_10_method_39_code
def yX8_takesOn : MethodName := ⟨RX8, "takesOn", "(I)I"⟩
abbrev cX8_takesBy : ByteArray := prog_10_method_40_code
def yX8_takesBy : MethodName := ⟨RX8, "takesBy", "()I"⟩
abbrev cX8_hookOf : ByteArray := prog_10_method_41_code
def yX8_hookOf : MethodName := ⟨RX8, "hookOf", "(II)I"⟩
abbrev cX8_exchanges : ByteArray := prog_10_method_42_code
def yX8_exchanges : MethodName := ⟨RX8, "exchanges", "()I"⟩
abbrev cX8_hangingNow : ByteArray := prog_10_method_43_code
def yX8_hangingNow : MethodName := ⟨RX8, "hangingNow", "(I)I"⟩
abbrev cX8_hanging : ByteArray := prog_10_method_44_code
def yX8_hanging : MethodName := ⟨RX8, "hanging", "(I)I"⟩
abbrev cX8_found : ByteArray := prog_10_method_45_code
def yX8_found : MethodName := ⟨RX8, "found", "(II)I"⟩
abbrev cX8_forget : ByteArray := prog_10_method_46_code
def yX8_forget : MethodName := ⟨RX8, "forget", "()I"⟩
abbrev cX8_couldHang : ByteArray := prog_10_method_47_code
def yX8_couldHang : MethodName := ⟨RX8, "couldHang", "()Z"⟩
abbrev cX8_hungNow : ByteArray := prog_10_method_48_code
def yX8_hungNow : MethodName := ⟨RX8, "hungNow", "()I"⟩
abbrev cX8_hung : ByteArray := prog_10_method_49_code
def yX8_hung : MethodName := ⟨RX8, "hung", "()I"⟩
abbrev cX8_whereNow : ByteArray := prog_10_method_50_code
def yX8_whereNow : MethodName := ⟨RX8, "whereNow", "(I)I"⟩
abbrev cX8_where : ByteArray := prog_10_method_51_code
def yX8_where : MethodName := ⟨RX8, "where", "(I)I"⟩
abbrev cX8_draw : ByteArray := prog_10_method_52_code
def yX8_draw : MethodName := ⟨RX8, "draw", "(I)I"⟩
abbrev cX8_wouldBeFull : ByteArray := prog_10_method_53_code
def yX8_wouldBeFull : MethodName := ⟨RX8, "wouldBeFull", "(I)Z"⟩
abbrev cX8_goParcel : ByteArray := prog_10_method_54_code
def yX8_goParcel : MethodName := ⟨RX8, "goParcel", "()V"⟩
abbrev cX8_shiftsNow : ByteArray := prog_10_method_55_code
def yX8_shiftsNow : MethodName := ⟨RX8, "shiftsNow", "(III)I"⟩
abbrev cX8_shifts : ByteArray := prog_10_method_56_code
def yX8_shifts : MethodName := ⟨RX8, "shifts", "(III)I"⟩
abbrev cX8_image : ByteArray := prog_10_method_57_code
def yX8_image : MethodName := ⟨RX8, "image", "()I"⟩
abbrev cX8_restore : ByteArray := prog_10_method_58_code
def yX8_restore : MethodName := ⟨RX8, "restore", "()I"⟩
abbrev cX8_inSacks : ByteArray := prog_10_method_59_code
def yX8_inSacks : MethodName := ⟨RX8, "inSacks", "(Z)I"⟩
abbrev cX8_howMany : ByteArray := prog_10_method_60_code
def yX8_howMany : MethodName := ⟨RX8, "howMany", "(I)I"⟩
abbrev cX8_count : ByteArray := prog_10_method_61_code
def yX8_count : MethodName := ⟨RX8, "count", "(I)I"⟩
abbrev cX8_mix : ByteArray := prog_10_method_62_code
def yX8_mix : MethodName := ⟨RX8, "mix", "(J)V"⟩
abbrev cX8_mixHook : ByteArray := prog_10_method_63_code
def yX8_mixHook : MethodName := ⟨RX8, "mixHook", "(I)V"⟩
abbrev cX8_mixFloor : ByteArray := prog_10_method_64_code
def yX8_mixFloor : MethodName := ⟨RX8, "mixFloor", "()V"⟩
abbrev cX8_digest : ByteArray := prog_10_method_65_code
def yX8_digest : MethodName := ⟨RX8, "digest", "()J"⟩
def RJ6 : String := "java/lang/Integer"
def TJ6 : u_T := fun k => match k with
  | _ => ("", "", "", false)
def tyJ6 : Nat → FieldType := fun k => match k with
  | _ => .int
abbrev wsJ60 : List Cond := u_ws RJ6 TJ6 0
theorem nmJ6 : ∀ a, a < 0 → ∀ b, b < 0 → a ≠ b → (TJ6 a).2.1 ≠ (TJ6 b).2.1 := by decide +kernel
theorem tyJ6_ok : ∀ k, k < 0 → parseFieldDescriptor (TJ6 k).2.2.1 = some (tyJ6 k) := by decide +kernel
abbrev cJ6_bitCount_0f7a4 : ByteArray := prog_11_method_49_code
def yJ6_bitCount_0f7a4 : MethodName := ⟨RJ6, "bitCount", "(I)I"⟩
def RJ9 : String := "java/lang/Math"
def TJ9 : u_T := fun k => match k with
  | _ => ("", "", "", false)
def tyJ9 : Nat → FieldType := fun k => match k with
  | _ => .int
abbrev wsJ90 : List Cond := u_ws RJ9 TJ9 0
theorem nmJ9 : ∀ a, a < 0 → ∀ b, b < 0 → a ≠ b → (TJ9 a).2.1 ≠ (TJ9 b).2.1 := by decide +kernel
theorem tyJ9_ok : ∀ k, k < 0 → parseFieldDescriptor (TJ9 k).2.2.1 = some (tyJ9 k) := by decide +kernel
abbrev cJ9_max_7cf53 : ByteArray := prog_12_method_65_code
def yJ9_max_7cf53 : MethodName := ⟨RJ9, "max", "(II)I"⟩
abbrev cJ9_min_7cf53 : ByteArray := prog_12_method_69_code
def yJ9_min_7cf53 : MethodName := ⟨RJ9, "min", "(II)I"⟩
def RJ7 : String := "java/util/Arrays"
def TJ7 : u_T := fun k => match k with
  | _ => ("", "", "", false)
def tyJ7 : Nat → FieldType := fun k => match k with
  | _ => .int
abbrev wsJ70 : List Cond := u_ws RJ7 TJ7 0
theorem nmJ7 : ∀ a, a < 0 → ∀ b, b < 0 → a ≠ b → (TJ7 a).2.1 ≠ (TJ7 b).2.1 := by decide +kernel
theorem tyJ7_ok : ∀ k, k < 0 → parseFieldDescriptor (TJ7 k).2.2.1 = some (tyJ7 k) := by decide +kernel
abbrev cJ7_fill_53178 : ByteArray := prog_13_method_103_code
def yJ7_fill_53178 : MethodName := ⟨RJ7, "fill", "([II)V"⟩
def RL : String := "ThrownSacksLaw"
abbrev cL_law : ByteArray := code
def yL_law : MethodName := ⟨RL, "law", "([I)Z"⟩
def wsX0_init : List Cond := .code yX0_init cX0_init 1 none :: ([.methodLink RX0 3 objectInit, .instanceMethod objectInit, .code objectInit ⟨#[0xb1]⟩ 1 none, .arrayClass .int, .fieldLink RX0 9 "ThrownSacks$Best" "towns" "[I", .fieldLink RX0 15 "ThrownSacks$Best" "less" "[I", .fieldLink RX0 18 "ThrownSacks$Best" "rest" "[I"] ++ wsX00)
def wsX7_gripOf : List Cond := .code yX7_gripOf cX7_gripOf 1 (some .int) :: ([.fieldLink RX7 268 "ThrownSacks" "GRIPS" "[I"])
def wsX7_tenthsOf : List Cond := .code yX7_tenthsOf cX7_tenthsOf 6 (some .int) :: ([.methodLink RX7 271 Lib.Math.min.name, .static Lib.Math.min.name, .initialized "java/lang/Math", .code Lib.Math.min.name Lib.Math.min.code 2 (some .int), .methodLink RX7 276 Lib.Math.max.name, .static Lib.Math.max.name, .code Lib.Math.max.name Lib.Math.max.code 2 (some .int), .methodLink RX7 141 yX7_gripOf, .static yX7_gripOf, .initialized RX7, .code yX7_gripOf cX7_gripOf 1 (some .int), .fieldLink RX7 268 "ThrownSacks" "GRIPS" "[I"])
def wsX7_carrySeconds : List Cond := .code yX7_carrySeconds cX7_carrySeconds 1 (some .int) :: ([])
def wsX7_carryTenths : List Cond := .code yX7_carryTenths cX7_carryTenths 1 (some .int) :: ([.methodLink RX7 162 yX7_carrySeconds, .static yX7_carrySeconds, .initialized RX7, .code yX7_carrySeconds cX7_carrySeconds 1 (some .int)])
def wsX7_costOf : List Cond := .code yX7_costOf cX7_costOf 7 (some .int) :: ([.methodLink RX7 264 yX7_tenthsOf, .static yX7_tenthsOf, .initialized RX7, .code yX7_tenthsOf cX7_tenthsOf 6 (some .int), .methodLink RX7 271 Lib.Math.min.name, .static Lib.Math.min.name, .initialized "java/lang/Math", .code Lib.Math.min.name Lib.Math.min.code 2 (some .int), .methodLink RX7 276 Lib.Math.max.name, .static Lib.Math.max.name, .code Lib.Math.max.name Lib.Math.max.code 2 (some .int), .methodLink RX7 141 yX7_gripOf, .static yX7_gripOf, .code yX7_gripOf cX7_gripOf 1 (some .int), .fieldLink RX7 268 "ThrownSacks" "GRIPS" "[I", .methodLink RX7 173 yX7_carryTenths, .static yX7_carryTenths, .code yX7_carryTenths cX7_carryTenths 1 (some .int), .methodLink RX7 162 yX7_carrySeconds, .static yX7_carrySeconds, .code yX7_carrySeconds cX7_carrySeconds 1 (some .int)])
def wsJ6_bitCount_0f7a4 : List Cond := .code yJ6_bitCount_0f7a4 cJ6_bitCount_0f7a4 1 (some .int) :: ([.constant RJ6 265 (1431655765), .constant RJ6 266 (858993459), .constant RJ6 267 (252645135)])
def wsX2_oftenOf : List Cond := .code yX2_oftenOf cX2_oftenOf 2 (some .int) :: ([.fieldLink RX2 33 "ThrownSacks$Plan" "hooks" "I", .fieldLink RX2 18 "ThrownSacks$Plan" "often" "[I"] ++ wsX20)
def wsX0_withTown : List Cond := .code yX0_withTown cX0_withTown 6 (some .int) :: ([.fieldLink RX0 21 "ThrownSacks$Plan" "hooks" "I", .fieldLink RX0 18 "ThrownSacks$Best" "rest" "[I", .fieldLink RX0 15 "ThrownSacks$Best" "less" "[I", .methodLink RX0 55 yJ6_bitCount_0f7a4, .static yJ6_bitCount_0f7a4, .initialized RJ6, .code yJ6_bitCount_0f7a4 cJ6_bitCount_0f7a4 1 (some .int), .constant RJ6 265 (1431655765), .constant RJ6 266 (858993459), .constant RJ6 267 (252645135), .methodLink RX0 60 yX2_oftenOf, .instanceMethod yX2_oftenOf, .selects RX2 yX2_oftenOf yX2_oftenOf, .initialized RX2, .code yX2_oftenOf cX2_oftenOf 2 (some .int), .fieldLink RX2 33 "ThrownSacks$Plan" "hooks" "I", .fieldLink RX2 18 "ThrownSacks$Plan" "often" "[I"] ++ wsX20 ++ wsX00)
def wsX0_bestTown : List Cond := .code yX0_bestTown cX0_bestTown 7 (some .int) :: ([.fieldLink RX0 21 "ThrownSacks$Plan" "hooks" "I", .methodLink RX0 48 yX0_withTown, .instanceMethod yX0_withTown, .selects RX0 yX0_withTown yX0_withTown, .initialized RX0, .code yX0_withTown cX0_withTown 6 (some .int), .fieldLink RX0 18 "ThrownSacks$Best" "rest" "[I", .fieldLink RX0 15 "ThrownSacks$Best" "less" "[I", .methodLink RX0 55 yJ6_bitCount_0f7a4, .static yJ6_bitCount_0f7a4, .initialized RJ6, .code yJ6_bitCount_0f7a4 cJ6_bitCount_0f7a4 1 (some .int), .constant RJ6 265 (1431655765), .constant RJ6 266 (858993459), .constant RJ6 267 (252645135), .methodLink RX0 60 yX2_oftenOf, .instanceMethod yX2_oftenOf, .selects RX2 yX2_oftenOf yX2_oftenOf, .initialized RX2, .code yX2_oftenOf cX2_oftenOf 2 (some .int), .fieldLink RX2 33 "ThrownSacks$Plan" "hooks" "I", .fieldLink RX2 18 "ThrownSacks$Plan" "often" "[I"] ++ wsX20 ++ wsX00)
def wsX0_seek_r1 : List Cond := [Cond.fieldLink RX0 21 "ThrownSacks$Plan" "hooks" "I", Cond.fieldLink RX0 27 "ThrownSacks$Plan" "yards" "[I", Cond.fieldLink RX0 15 "ThrownSacks$Best" "less" "[I", Cond.methodLink RX0 38 Lib.Math.min.name, Cond.static Lib.Math.min.name, Cond.initialized "java/lang/Math", Cond.code Lib.Math.min.name Lib.Math.min.code 2 (some .int), Cond.fieldLink RX0 18 "ThrownSacks$Best" "rest" "[I", Cond.fieldLink RX0 52 "ThrownSacks$Best" "total" "I", Cond.fieldLink RX0 9 "ThrownSacks$Best" "towns" "[I", Cond.static yX7_costOf, Cond.initialized RX7, Cond.code yX7_costOf cX7_costOf 7 (some .int), Cond.methodLink RX7 264 yX7_tenthsOf, Cond.static yX7_tenthsOf, Cond.code yX7_tenthsOf cX7_tenthsOf 6 (some .int), Cond.methodLink RX7 271 Lib.Math.min.name, Cond.methodLink RX7 276 Lib.Math.max.name, Cond.static Lib.Math.max.name, Cond.code Lib.Math.max.name Lib.Math.max.code 2 (some .int), Cond.methodLink RX7 141 yX7_gripOf, Cond.static yX7_gripOf, Cond.code yX7_gripOf cX7_gripOf 1 (some .int), Cond.fieldLink RX7 268 "ThrownSacks" "GRIPS" "[I"]
def wsX0_seek_r2 : List Cond := [Cond.methodLink RX7 173 yX7_carryTenths, Cond.static yX7_carryTenths, Cond.code yX7_carryTenths cX7_carryTenths 1 (some .int), Cond.methodLink RX7 162 yX7_carrySeconds, Cond.static yX7_carrySeconds, Cond.code yX7_carrySeconds cX7_carrySeconds 1 (some .int), Cond.methodLink RX0 44 yX0_bestTown, Cond.instanceMethod yX0_bestTown, Cond.selects RX0 yX0_bestTown yX0_bestTown, Cond.initialized RX0, Cond.code yX0_bestTown cX0_bestTown 7 (some .int), Cond.methodLink RX0 48 yX0_withTown, Cond.instanceMethod yX0_withTown, Cond.selects RX0 yX0_withTown yX0_withTown, Cond.code yX0_withTown cX0_withTown 6 (some .int), Cond.methodLink RX0 55 yJ6_bitCount_0f7a4, Cond.static yJ6_bitCount_0f7a4, Cond.initialized RJ6, Cond.code yJ6_bitCount_0f7a4 cJ6_bitCount_0f7a4 1 (some .int), Cond.constant RJ6 265 (1431655765), Cond.constant RJ6 266 (858993459), Cond.constant RJ6 267 (252645135), Cond.methodLink RX0 60 yX2_oftenOf, Cond.instanceMethod yX2_oftenOf]
def wsX0_seek_r3 : List Cond := [Cond.selects RX2 yX2_oftenOf yX2_oftenOf, Cond.initialized RX2, Cond.code yX2_oftenOf cX2_oftenOf 2 (some .int), Cond.fieldLink RX2 33 "ThrownSacks$Plan" "hooks" "I", Cond.fieldLink RX2 18 "ThrownSacks$Plan" "often" "[I"]
def wsX0_seek : List Cond := .code yX0_seek cX0_seek 5 none :: ((wsX0_seek_r1 ++ (wsX0_seek_r2 ++ wsX0_seek_r3)) ++ wsX20 ++ wsX00)
def wsX4_hookOf : List Cond := .code yX4_hookOf cX4_hookOf 3 (some .int) :: ([.fieldLink RX4 9 "ThrownSacks$Standing" "towns" "[I"] ++ wsX40)
def wsX0_exchangesFrom : List Cond := .code yX0_exchangesFrom cX0_exchangesFrom 8 (some .int) :: ([.fieldLink RX0 9 "ThrownSacks$Best" "towns" "[I", .methodLink RX0 63 yX4_hookOf, .instanceMethod yX4_hookOf, .selects RX4 yX4_hookOf yX4_hookOf, .initialized RX4, .code yX4_hookOf cX4_hookOf 3 (some .int), .fieldLink RX4 9 "ThrownSacks$Standing" "towns" "[I"] ++ wsX00 ++ wsX40)
def wsX1_init : List Cond := .code yX1_init cX1_init 1 none :: ([.methodLink RX1 3 objectInit, .instanceMethod objectInit, .code objectInit ⟨#[0xb1]⟩ 1 none, .arrayClass .int, .fieldLink RX1 9 "ThrownSacks$Page" "codes" "[I"] ++ wsX10)
def wsX1_add : List Cond := .code yX1_add cX1_add 2 none :: ([.fieldLink RX1 15 "ThrownSacks$Page" "size" "I", .fieldLink RX1 9 "ThrownSacks$Page" "codes" "[I"] ++ wsX10)
def wsX1_codeAt : List Cond := .code yX1_codeAt cX1_codeAt 2 (some .int) :: ([.fieldLink RX1 15 "ThrownSacks$Page" "size" "I", .fieldLink RX1 9 "ThrownSacks$Page" "codes" "[I"] ++ wsX10)
def wsX1_digitAt : List Cond := .code yX1_digitAt cX1_digitAt 2 (some .int) :: ([.methodLink RX1 19 yX1_codeAt, .instanceMethod yX1_codeAt, .selects RX1 yX1_codeAt yX1_codeAt, .initialized RX1, .code yX1_codeAt cX1_codeAt 2 (some .int), .fieldLink RX1 15 "ThrownSacks$Page" "size" "I", .fieldLink RX1 9 "ThrownSacks$Page" "codes" "[I"] ++ wsX10)
def wsX1_hooksTold : List Cond := .code yX1_hooksTold cX1_hooksTold 2 (some .int) :: ([.fieldLink RX1 15 "ThrownSacks$Page" "size" "I", .methodLink RX1 19 yX1_codeAt, .instanceMethod yX1_codeAt, .selects RX1 yX1_codeAt yX1_codeAt, .initialized RX1, .code yX1_codeAt cX1_codeAt 2 (some .int), .fieldLink RX1 9 "ThrownSacks$Page" "codes" "[I"] ++ wsX10)
def wsX1_canTellOfHooks : List Cond := .code yX1_canTellOfHooks cX1_canTellOfHooks 3 (some .boolean) :: ([])
def wsX1_firstWrong : List Cond := .code yX1_firstWrong cX1_firstWrong 4 (some .int) :: ([.fieldLink RX1 15 "ThrownSacks$Page" "size" "I", .methodLink RX1 19 yX1_codeAt, .instanceMethod yX1_codeAt, .selects RX1 yX1_codeAt yX1_codeAt, .initialized RX1, .code yX1_codeAt cX1_codeAt 2 (some .int), .fieldLink RX1 9 "ThrownSacks$Page" "codes" "[I", .methodLink RX1 30 yX1_canTellOfHooks, .static yX1_canTellOfHooks, .code yX1_canTellOfHooks cX1_canTellOfHooks 3 (some .boolean)] ++ wsX10)
def wsX1_isFloor : List Cond := .code yX1_isFloor cX1_isFloor 2 (some .boolean) :: ([.fieldLink RX1 15 "ThrownSacks$Page" "size" "I", .methodLink RX1 23 yX1_hooksTold, .instanceMethod yX1_hooksTold, .selects RX1 yX1_hooksTold yX1_hooksTold, .initialized RX1, .code yX1_hooksTold cX1_hooksTold 2 (some .int), .methodLink RX1 19 yX1_codeAt, .instanceMethod yX1_codeAt, .selects RX1 yX1_codeAt yX1_codeAt, .code yX1_codeAt cX1_codeAt 2 (some .int), .fieldLink RX1 9 "ThrownSacks$Page" "codes" "[I", .methodLink RX1 27 yX1_firstWrong, .instanceMethod yX1_firstWrong, .selects RX1 yX1_firstWrong yX1_firstWrong, .code yX1_firstWrong cX1_firstWrong 4 (some .int), .methodLink RX1 30 yX1_canTellOfHooks, .static yX1_canTellOfHooks, .code yX1_canTellOfHooks cX1_canTellOfHooks 3 (some .boolean)] ++ wsX10)
def wsX2_init : List Cond := .code yX2_init cX2_init 1 none :: ([.methodLink RX2 3 objectInit, .instanceMethod objectInit, .code objectInit ⟨#[0xb1]⟩ 1 none, .arrayClass .int, .fieldLink RX2 9 "ThrownSacks$Plan" "yards" "[I", .fieldLink RX2 15 "ThrownSacks$Plan" "room" "[I", .fieldLink RX2 18 "ThrownSacks$Plan" "often" "[I"] ++ wsX20)
def wsX2_read : List Cond := .code yX2_read cX2_read 3 none :: ([.methodLink RX2 27 Lib.Math.min.name, .static Lib.Math.min.name, .initialized "java/lang/Math", .code Lib.Math.min.name Lib.Math.min.code 2 (some .int), .fieldLink RX2 33 "ThrownSacks$Plan" "hooks" "I", .fieldLink RX2 9 "ThrownSacks$Plan" "yards" "[I", .fieldLink RX2 15 "ThrownSacks$Plan" "room" "[I", .fieldLink RX2 18 "ThrownSacks$Plan" "often" "[I", .methodLink RX2 21 yX1_hooksTold, .instanceMethod yX1_hooksTold, .selects RX1 yX1_hooksTold yX1_hooksTold, .initialized RX1, .code yX1_hooksTold cX1_hooksTold 2 (some .int), .fieldLink RX1 15 "ThrownSacks$Page" "size" "I", .methodLink RX1 19 yX1_codeAt, .instanceMethod yX1_codeAt, .selects RX1 yX1_codeAt yX1_codeAt, .code yX1_codeAt cX1_codeAt 2 (some .int), .fieldLink RX1 9 "ThrownSacks$Page" "codes" "[I", .methodLink RX2 37 yX1_digitAt, .instanceMethod yX1_digitAt, .selects RX1 yX1_digitAt yX1_digitAt, .code yX1_digitAt cX1_digitAt 2 (some .int)] ++ wsX20 ++ wsX10)
def wsX3_init : List Cond := .code yX3_init cX3_init 1 none :: ([.methodLink RX3 3 objectInit, .instanceMethod objectInit, .code objectInit ⟨#[0xb1]⟩ 1 none, .arrayClass .int, .fieldLink RX3 9 "ThrownSacks$Row" "kinds" "[I", .fieldLink RX3 15 "ThrownSacks$Row" "towns" "[I", .arrayClass .boolean, .fieldLink RX3 18 "ThrownSacks$Row" "harms" "[Z"] ++ wsX30)
def wsX3_add : List Cond := .code yX3_add cX3_add 4 none :: ([.fieldLink RX3 22 "ThrownSacks$Row" "size" "I", .fieldLink RX3 9 "ThrownSacks$Row" "kinds" "[I", .fieldLink RX3 15 "ThrownSacks$Row" "towns" "[I", .fieldLink RX3 18 "ThrownSacks$Row" "harms" "[Z"] ++ wsX30)
def wsX3_kindAt : List Cond := .code yX3_kindAt cX3_kindAt 2 (some .int) :: ([.fieldLink RX3 22 "ThrownSacks$Row" "size" "I", .fieldLink RX3 9 "ThrownSacks$Row" "kinds" "[I"] ++ wsX30)
def wsX3_townAt : List Cond := .code yX3_townAt cX3_townAt 2 (some .int) :: ([.fieldLink RX3 22 "ThrownSacks$Row" "size" "I", .fieldLink RX3 15 "ThrownSacks$Row" "towns" "[I"] ++ wsX30)
def wsX3_dropFirst : List Cond := .code yX3_dropFirst cX3_dropFirst 2 none :: ([.fieldLink RX3 22 "ThrownSacks$Row" "size" "I", .fieldLink RX3 9 "ThrownSacks$Row" "kinds" "[I", .fieldLink RX3 15 "ThrownSacks$Row" "towns" "[I", .fieldLink RX3 18 "ThrownSacks$Row" "harms" "[Z", .methodLink RX3 26 Lib.Math.max.name, .static Lib.Math.max.name, .initialized "java/lang/Math", .code Lib.Math.max.name Lib.Math.max.code 2 (some .int)] ++ wsX30)
def wsX3_ofKind : List Cond := .code yX3_ofKind cX3_ofKind 4 (some .int) :: ([.fieldLink RX3 22 "ThrownSacks$Row" "size" "I", .fieldLink RX3 9 "ThrownSacks$Row" "kinds" "[I"] ++ wsX30)
def wsX3_notFor : List Cond := .code yX3_notFor cX3_notFor 4 (some .int) :: ([.fieldLink RX3 22 "ThrownSacks$Row" "size" "I", .fieldLink RX3 15 "ThrownSacks$Row" "towns" "[I"] ++ wsX30)
def wsX3_harmGlass : List Cond := .code yX3_harmGlass cX3_harmGlass 3 (some .int) :: ([.fieldLink RX3 22 "ThrownSacks$Row" "size" "I", .fieldLink RX3 9 "ThrownSacks$Row" "kinds" "[I", .fieldLink RX3 18 "ThrownSacks$Row" "harms" "[Z"] ++ wsX30)
def wsX3_copy : List Cond := .code yX3_copy cX3_copy 3 none :: ([.fieldLink RX3 22 "ThrownSacks$Row" "size" "I", .fieldLink RX3 9 "ThrownSacks$Row" "kinds" "[I", .fieldLink RX3 15 "ThrownSacks$Row" "towns" "[I", .fieldLink RX3 18 "ThrownSacks$Row" "harms" "[Z"] ++ wsX30)
def wsX4_init : List Cond := .code yX4_init cX4_init 2 none :: ([.methodLink RX4 3 objectInit, .instanceMethod objectInit, .code objectInit ⟨#[0xb1]⟩ 1 none, .arrayClass .int, .fieldLink RX4 9 "ThrownSacks$Standing" "towns" "[I", .classLink RX4 15 RX3, .fieldLink RX4 17 "ThrownSacks$Standing" "sacks" "[LThrownSacks$Row;", .instantiable RX3 4, .initialized RX3, .fieldLink RX4 22 "ThrownSacks$Standing" "belt" "LThrownSacks$Row;", .fieldLink RX4 26 "ThrownSacks$Standing" "foundTowns" "[I", .fieldLink RX4 29 "ThrownSacks$Standing" "foundIn" "[I", .instanceMethod yX3_init, .code yX3_init cX3_init 1 none, .methodLink RX3 3 objectInit, .fieldLink RX3 9 "ThrownSacks$Row" "kinds" "[I", .fieldLink RX3 15 "ThrownSacks$Row" "towns" "[I", .arrayClass .boolean, .fieldLink RX3 18 "ThrownSacks$Row" "harms" "[Z"] ++ wsX40 ++ wsX30)
def wsX4_start : List Cond := .code yX4_start cX4_start 2 none :: ([.fieldLink RX4 9 "ThrownSacks$Standing" "towns" "[I", .fieldLink RX4 17 "ThrownSacks$Standing" "sacks" "[LThrownSacks$Row;", .fieldLink RX4 32 "ThrownSacks$Row" "size" "I", .fieldLink RX4 22 "ThrownSacks$Standing" "belt" "LThrownSacks$Row;", .fieldLink RX4 36 "ThrownSacks$Standing" "found" "I", .fieldLink RX4 39 "ThrownSacks$Standing" "seconds" "I", .fieldLink RX4 42 "ThrownSacks$Standing" "harmed" "I"] ++ wsX40 ++ wsX30)
def wsX4_copy : List Cond := .code yX4_copy cX4_copy 3 none :: ([.fieldLink RX4 9 "ThrownSacks$Standing" "towns" "[I", .fieldLink RX4 17 "ThrownSacks$Standing" "sacks" "[LThrownSacks$Row;", .fieldLink RX4 22 "ThrownSacks$Standing" "belt" "LThrownSacks$Row;", .fieldLink RX4 26 "ThrownSacks$Standing" "foundTowns" "[I", .fieldLink RX4 29 "ThrownSacks$Standing" "foundIn" "[I", .fieldLink RX4 36 "ThrownSacks$Standing" "found" "I", .fieldLink RX4 39 "ThrownSacks$Standing" "seconds" "I", .fieldLink RX4 42 "ThrownSacks$Standing" "harmed" "I", .methodLink RX4 45 yX3_copy, .instanceMethod yX3_copy, .selects RX3 yX3_copy yX3_copy, .initialized RX3, .code yX3_copy cX3_copy 3 none, .fieldLink RX3 22 "ThrownSacks$Row" "size" "I", .fieldLink RX3 9 "ThrownSacks$Row" "kinds" "[I", .fieldLink RX3 15 "ThrownSacks$Row" "towns" "[I", .fieldLink RX3 18 "ThrownSacks$Row" "harms" "[Z"] ++ wsX40 ++ wsX30)
def wsX4_putFirst_r1 : List Cond := [Cond.fieldLink RX4 22 "ThrownSacks$Standing" "belt" "LThrownSacks$Row;", Cond.fieldLink RX4 42 "ThrownSacks$Standing" "harmed" "I", Cond.fieldLink RX4 17 "ThrownSacks$Standing" "sacks" "[LThrownSacks$Row;", Cond.methodLink RX4 49 yX3_kindAt, Cond.instanceMethod yX3_kindAt, Cond.selects RX3 yX3_kindAt yX3_kindAt, Cond.initialized RX3, Cond.code yX3_kindAt cX3_kindAt 2 (some .int), Cond.fieldLink RX3 22 "ThrownSacks$Row" "size" "I", Cond.fieldLink RX3 9 "ThrownSacks$Row" "kinds" "[I", Cond.methodLink RX4 53 yX3_harmGlass, Cond.instanceMethod yX3_harmGlass, Cond.selects RX3 yX3_harmGlass yX3_harmGlass, Cond.code yX3_harmGlass cX3_harmGlass 3 (some .int), Cond.fieldLink RX3 18 "ThrownSacks$Row" "harms" "[Z", Cond.methodLink RX4 57 yX3_townAt, Cond.instanceMethod yX3_townAt, Cond.selects RX3 yX3_townAt yX3_townAt, Cond.code yX3_townAt cX3_townAt 2 (some .int), Cond.fieldLink RX3 15 "ThrownSacks$Row" "towns" "[I", Cond.methodLink RX4 60 yX3_add, Cond.instanceMethod yX3_add, Cond.selects RX3 yX3_add yX3_add, Cond.code yX3_add cX3_add 4 none]
def wsX4_putFirst_r2 : List Cond := [Cond.methodLink RX4 64 yX3_dropFirst, Cond.instanceMethod yX3_dropFirst, Cond.selects RX3 yX3_dropFirst yX3_dropFirst, Cond.code yX3_dropFirst cX3_dropFirst 2 none, Cond.methodLink RX3 26 Lib.Math.max.name, Cond.static Lib.Math.max.name, Cond.initialized "java/lang/Math", Cond.code Lib.Math.max.name Lib.Math.max.code 2 (some .int)]
def wsX4_putFirst : List Cond := .code yX4_putFirst cX4_putFirst 5 none :: ((wsX4_putFirst_r1 ++ wsX4_putFirst_r2) ++ wsX40 ++ wsX30)
def wsX4_swap : List Cond := .code yX4_swap cX4_swap 5 none :: ([.fieldLink RX4 17 "ThrownSacks$Standing" "sacks" "[LThrownSacks$Row;", .fieldLink RX4 9 "ThrownSacks$Standing" "towns" "[I"] ++ wsX40)
def wsX4_addFound : List Cond := .code yX4_addFound cX4_addFound 3 none :: ([.fieldLink RX4 36 "ThrownSacks$Standing" "found" "I", .fieldLink RX4 26 "ThrownSacks$Standing" "foundTowns" "[I", .fieldLink RX4 29 "ThrownSacks$Standing" "foundIn" "[I"] ++ wsX40)
def wsX4_inSacks : List Cond := .code yX4_inSacks cX4_inSacks 4 (some .int) :: ([.fieldLink RX4 17 "ThrownSacks$Standing" "sacks" "[LThrownSacks$Row;", .fieldLink RX4 32 "ThrownSacks$Row" "size" "I"] ++ wsX40 ++ wsX30)
def wsX4_wrongInSacks : List Cond := .code yX4_wrongInSacks cX4_wrongInSacks 4 (some .int) :: ([.fieldLink RX4 17 "ThrownSacks$Standing" "sacks" "[LThrownSacks$Row;", .fieldLink RX4 9 "ThrownSacks$Standing" "towns" "[I", .methodLink RX4 67 yX3_notFor, .instanceMethod yX3_notFor, .selects RX3 yX3_notFor yX3_notFor, .initialized RX3, .code yX3_notFor cX3_notFor 4 (some .int), .fieldLink RX3 22 "ThrownSacks$Row" "size" "I", .fieldLink RX3 15 "ThrownSacks$Row" "towns" "[I"] ++ wsX40 ++ wsX30)
def wsX5_init : List Cond := .code yX5_init cX5_init 1 none :: ([.methodLink RX5 3 objectInit, .instanceMethod objectInit, .code objectInit ⟨#[0xb1]⟩ 1 none, .arrayClass .int, .fieldLink RX5 9 "ThrownSacks$Trial" "held" "[I"] ++ wsX50)
def wsJ7_fill_53178 : List Cond := .code yJ7_fill_53178 cJ7_fill_53178 4 none :: ([])
def wsX5_draw : List Cond := .code yX5_draw cX5_draw 2 (some .int) :: ([.constantLong RX5 63 (1103515245), .fieldLink RX5 21 "ThrownSacks$Trial" "seed" "I", .constantLong RX5 65 (12345), .constantLong RX5 67 (2147483647)] ++ wsX50)
def wsX7_nextTo : List Cond := .code yX7_nextTo cX7_nextTo 2 (some .int) :: ([])
def wsX5_throwAt_r1 : List Cond := [Cond.fieldLink RX5 9 "ThrownSacks$Trial" "held" "[I", Cond.fieldLink RX5 49 "ThrownSacks$Plan" "room" "[I", Cond.fieldLink RX5 31 "ThrownSacks$Plan" "hooks" "I", Cond.fieldLink RX5 56 "ThrownSacks$Plan" "yards" "[I", Cond.fieldLink RX5 25 "ThrownSacks$Trial" "cameNext" "I", Cond.fieldLink RX5 28 "ThrownSacks$Trial" "layBeside" "I", Cond.static yX7_nextTo, Cond.initialized RX7, Cond.code yX7_nextTo cX7_nextTo 2 (some .int), Cond.static yX7_tenthsOf, Cond.code yX7_tenthsOf cX7_tenthsOf 6 (some .int), Cond.methodLink RX7 271 Lib.Math.min.name, Cond.static Lib.Math.min.name, Cond.initialized "java/lang/Math", Cond.code Lib.Math.min.name Lib.Math.min.code 2 (some .int), Cond.methodLink RX7 276 Lib.Math.max.name, Cond.static Lib.Math.max.name, Cond.code Lib.Math.max.name Lib.Math.max.code 2 (some .int), Cond.methodLink RX7 141 yX7_gripOf, Cond.static yX7_gripOf, Cond.code yX7_gripOf cX7_gripOf 1 (some .int), Cond.fieldLink RX7 268 "ThrownSacks" "GRIPS" "[I", Cond.methodLink RX5 36 yX5_draw, Cond.instanceMethod yX5_draw]
def wsX5_throwAt_r2 : List Cond := [Cond.selects RX5 yX5_draw yX5_draw, Cond.initialized RX5, Cond.code yX5_draw cX5_draw 2 (some .int), Cond.constantLong RX5 63 (1103515245), Cond.fieldLink RX5 21 "ThrownSacks$Trial" "seed" "I", Cond.constantLong RX5 65 (12345), Cond.constantLong RX5 67 (2147483647)]
def wsX5_throwAt : List Cond := .code yX5_throwAt cX5_throwAt 8 none :: ((wsX5_throwAt_r1 ++ wsX5_throwAt_r2) ++ wsX50 ++ wsX20)
def wsX5_run_r1 : List Cond := [Cond.fieldLink RX5 9 "ThrownSacks$Trial" "held" "[I", Cond.fieldLink RX5 21 "ThrownSacks$Trial" "seed" "I", Cond.fieldLink RX5 25 "ThrownSacks$Trial" "cameNext" "I", Cond.fieldLink RX5 28 "ThrownSacks$Trial" "layBeside" "I", Cond.fieldLink RX5 31 "ThrownSacks$Plan" "hooks" "I", Cond.methodLink RX5 15 yJ7_fill_53178, Cond.static yJ7_fill_53178, Cond.initialized RJ7, Cond.code yJ7_fill_53178 cJ7_fill_53178 4 none, Cond.methodLink RX5 36 yX5_draw, Cond.instanceMethod yX5_draw, Cond.selects RX5 yX5_draw yX5_draw, Cond.initialized RX5, Cond.code yX5_draw cX5_draw 2 (some .int), Cond.constantLong RX5 63 (1103515245), Cond.constantLong RX5 65 (12345), Cond.constantLong RX5 67 (2147483647), Cond.methodLink RX5 40 yX4_hookOf, Cond.instanceMethod yX4_hookOf, Cond.selects RX4 yX4_hookOf yX4_hookOf, Cond.initialized RX4, Cond.code yX4_hookOf cX4_hookOf 3 (some .int), Cond.fieldLink RX4 9 "ThrownSacks$Standing" "towns" "[I", Cond.methodLink RX5 45 yX5_throwAt]
def wsX5_run_r2 : List Cond := [Cond.instanceMethod yX5_throwAt, Cond.selects RX5 yX5_throwAt yX5_throwAt, Cond.code yX5_throwAt cX5_throwAt 8 none, Cond.fieldLink RX5 49 "ThrownSacks$Plan" "room" "[I", Cond.fieldLink RX5 56 "ThrownSacks$Plan" "yards" "[I", Cond.static yX7_nextTo, Cond.initialized RX7, Cond.code yX7_nextTo cX7_nextTo 2 (some .int), Cond.static yX7_tenthsOf, Cond.code yX7_tenthsOf cX7_tenthsOf 6 (some .int), Cond.methodLink RX7 271 Lib.Math.min.name, Cond.static Lib.Math.min.name, Cond.initialized "java/lang/Math", Cond.code Lib.Math.min.name Lib.Math.min.code 2 (some .int), Cond.methodLink RX7 276 Lib.Math.max.name, Cond.static Lib.Math.max.name, Cond.code Lib.Math.max.name Lib.Math.max.code 2 (some .int), Cond.methodLink RX7 141 yX7_gripOf, Cond.static yX7_gripOf, Cond.code yX7_gripOf cX7_gripOf 1 (some .int), Cond.fieldLink RX7 268 "ThrownSacks" "GRIPS" "[I"]
def wsX5_run : List Cond := .code yX5_run cX5_run 7 none :: ((wsX5_run_r1 ++ wsX5_run_r2) ++ wsX50 ++ wsX20 ++ wsX40)
def wsX6_init : List Cond := .code yX6_init cX6_init 1 none :: ([.methodLink RX6 3 objectInit, .instanceMethod objectInit, .code objectInit ⟨#[0xb1]⟩ 1 none, .arrayClass .int, .fieldLink RX6 9 "ThrownSacks$Ways" "towns" "[I", .fieldLink RX6 15 "ThrownSacks$Ways" "beyond" "[I", .fieldLink RX6 18 "ThrownSacks$Ways" "places" "[I"] ++ wsX60)
def wsX6_askAllFound : List Cond := .code yX6_askAllFound cX6_askAllFound 5 (some .boolean) :: ([.fieldLink RX6 15 "ThrownSacks$Ways" "beyond" "[I", .fieldLink RX6 49 "ThrownSacks$Standing" "found" "I", .fieldLink RX6 54 "ThrownSacks$Standing" "foundTowns" "[I", .fieldLink RX6 57 "ThrownSacks$Standing" "foundIn" "[I", .methodLink RX6 29 yJ7_fill_53178, .static yJ7_fill_53178, .initialized RJ7, .code yJ7_fill_53178 cJ7_fill_53178 4 none] ++ wsX60 ++ wsX40)
def wsX6_keep : List Cond := .code yX6_keep cX6_keep 3 none :: ([.fieldLink RX6 25 "ThrownSacks$Ways" "many" "I", .fieldLink RX6 18 "ThrownSacks$Ways" "places" "[I", .fieldLink RX6 9 "ThrownSacks$Ways" "towns" "[I"] ++ wsX60)
def wsX6_canHang : List Cond := .code yX6_canHang cX6_canHang 5 (some .boolean) :: ([.fieldLink RX6 9 "ThrownSacks$Ways" "towns" "[I", .fieldLink RX6 15 "ThrownSacks$Ways" "beyond" "[I"] ++ wsX60)
def wsX6_hangFrom : List Cond := .code yX6_hangFrom cX6_hangFrom 5 none :: ([.fieldLink RX6 9 "ThrownSacks$Ways" "towns" "[I", .methodLink RX6 60 yX6_keep, .instanceMethod yX6_keep, .selects RX6 yX6_keep yX6_keep, .initialized RX6, .code yX6_keep cX6_keep 3 none, .fieldLink RX6 25 "ThrownSacks$Ways" "many" "I", .fieldLink RX6 18 "ThrownSacks$Ways" "places" "[I", .methodLink RX6 64 yX6_canHang, .instanceMethod yX6_canHang, .selects RX6 yX6_canHang yX6_canHang, .code yX6_canHang cX6_canHang 5 (some .boolean), .fieldLink RX6 15 "ThrownSacks$Ways" "beyond" "[I", .methodLink RX6 45 yX6_hangFrom, .static yX6_hangFrom] ++ wsX60)
def wsX6_seek_r1 : List Cond := [Cond.fieldLink RX6 21 "ThrownSacks$Ways" "counted" "Z", Cond.fieldLink RX6 25 "ThrownSacks$Ways" "many" "I", Cond.fieldLink RX6 18 "ThrownSacks$Ways" "places" "[I", Cond.methodLink RX6 39 Lib.Math.min.name, Cond.static Lib.Math.min.name, Cond.initialized "java/lang/Math", Cond.code Lib.Math.min.name Lib.Math.min.code 2 (some .int), Cond.methodLink RX6 29 yJ7_fill_53178, Cond.static yJ7_fill_53178, Cond.initialized RJ7, Cond.code yJ7_fill_53178 cJ7_fill_53178 4 none, Cond.methodLink RX6 35 yX6_askAllFound, Cond.instanceMethod yX6_askAllFound, Cond.selects RX6 yX6_askAllFound yX6_askAllFound, Cond.initialized RX6, Cond.code yX6_askAllFound cX6_askAllFound 5 (some .boolean), Cond.fieldLink RX6 15 "ThrownSacks$Ways" "beyond" "[I", Cond.fieldLink RX6 49 "ThrownSacks$Standing" "found" "I", Cond.fieldLink RX6 54 "ThrownSacks$Standing" "foundTowns" "[I", Cond.fieldLink RX6 57 "ThrownSacks$Standing" "foundIn" "[I", Cond.methodLink RX6 45 yX6_hangFrom, Cond.static yX6_hangFrom, Cond.code yX6_hangFrom cX6_hangFrom 5 none, Cond.fieldLink RX6 9 "ThrownSacks$Ways" "towns" "[I"]
def wsX6_seek_r2 : List Cond := [Cond.methodLink RX6 60 yX6_keep, Cond.instanceMethod yX6_keep, Cond.selects RX6 yX6_keep yX6_keep, Cond.code yX6_keep cX6_keep 3 none, Cond.methodLink RX6 64 yX6_canHang, Cond.instanceMethod yX6_canHang, Cond.selects RX6 yX6_canHang yX6_canHang, Cond.code yX6_canHang cX6_canHang 5 (some .boolean)]
def wsX6_seek : List Cond := .code yX6_seek cX6_seek 3 none :: ((wsX6_seek_r1 ++ wsX6_seek_r2) ++ wsX60 ++ wsX40)
def wsX7_init_r1 : List Cond := [Cond.methodLink RX7 1 objectInit, Cond.instanceMethod objectInit, Cond.code objectInit ⟨#[0xb1]⟩ 1 none, Cond.classLink RX7 7 RX1, Cond.instantiable RX1 2, Cond.initialized RX1, Cond.fieldLink RX7 10 "ThrownSacks" "page" "LThrownSacks$Page;", Cond.classLink RX7 16 RX2, Cond.instantiable RX2 4, Cond.initialized RX2, Cond.fieldLink RX7 19 "ThrownSacks" "plan" "LThrownSacks$Plan;", Cond.classLink RX7 23 RX4, Cond.instantiable RX4 8, Cond.initialized RX4, Cond.fieldLink RX7 26 "ThrownSacks" "now" "LThrownSacks$Standing;", Cond.fieldLink RX7 30 "ThrownSacks" "kept" "LThrownSacks$Standing;", Cond.classLink RX7 33 RX0, Cond.instantiable RX0 4, Cond.initialized RX0, Cond.fieldLink RX7 36 "ThrownSacks" "best" "LThrownSacks$Best;", Cond.classLink RX7 40 RX6, Cond.instantiable RX6 5, Cond.initialized RX6, Cond.fieldLink RX7 43 "ThrownSacks" "ways" "LThrownSacks$Ways;"]
def wsX7_init_r2 : List Cond := [Cond.classLink RX7 47 RX5, Cond.instantiable RX5 4, Cond.initialized RX5, Cond.fieldLink RX7 50 "ThrownSacks" "trial" "LThrownSacks$Trial;", Cond.instanceMethod yX1_init, Cond.code yX1_init cX1_init 1 none, Cond.methodLink RX1 3 objectInit, Cond.arrayClass .int, Cond.fieldLink RX1 9 "ThrownSacks$Page" "codes" "[I", Cond.instanceMethod yX2_init, Cond.code yX2_init cX2_init 1 none, Cond.methodLink RX2 3 objectInit, Cond.fieldLink RX2 9 "ThrownSacks$Plan" "yards" "[I", Cond.fieldLink RX2 15 "ThrownSacks$Plan" "room" "[I", Cond.fieldLink RX2 18 "ThrownSacks$Plan" "often" "[I", Cond.methodLink RX7 25 yX4_init, Cond.instanceMethod yX4_init, Cond.code yX4_init cX4_init 2 none, Cond.methodLink RX4 3 objectInit, Cond.fieldLink RX4 9 "ThrownSacks$Standing" "towns" "[I", Cond.classLink RX4 15 RX3, Cond.fieldLink RX4 17 "ThrownSacks$Standing" "sacks" "[LThrownSacks$Row;", Cond.instantiable RX3 4, Cond.initialized RX3]
def wsX7_init_r3 : List Cond := [Cond.fieldLink RX4 22 "ThrownSacks$Standing" "belt" "LThrownSacks$Row;", Cond.fieldLink RX4 26 "ThrownSacks$Standing" "foundTowns" "[I", Cond.fieldLink RX4 29 "ThrownSacks$Standing" "foundIn" "[I", Cond.instanceMethod yX3_init, Cond.code yX3_init cX3_init 1 none, Cond.methodLink RX3 3 objectInit, Cond.fieldLink RX3 9 "ThrownSacks$Row" "kinds" "[I", Cond.fieldLink RX3 15 "ThrownSacks$Row" "towns" "[I", Cond.arrayClass .boolean, Cond.fieldLink RX3 18 "ThrownSacks$Row" "harms" "[Z", Cond.instanceMethod yX0_init, Cond.code yX0_init cX0_init 1 none, Cond.methodLink RX0 3 objectInit, Cond.fieldLink RX0 9 "ThrownSacks$Best" "towns" "[I", Cond.fieldLink RX0 15 "ThrownSacks$Best" "less" "[I", Cond.fieldLink RX0 18 "ThrownSacks$Best" "rest" "[I", Cond.instanceMethod yX6_init, Cond.code yX6_init cX6_init 1 none, Cond.methodLink RX6 3 objectInit, Cond.fieldLink RX6 9 "ThrownSacks$Ways" "towns" "[I", Cond.fieldLink RX6 15 "ThrownSacks$Ways" "beyond" "[I", Cond.fieldLink RX6 18 "ThrownSacks$Ways" "places" "[I", Cond.instanceMethod yX5_init, Cond.code yX5_init cX5_init 1 none]
def wsX7_init_r4 : List Cond := [Cond.methodLink RX5 3 objectInit, Cond.fieldLink RX5 9 "ThrownSacks$Trial" "held" "[I"]
def wsX7_init : List Cond := .code yX7_init cX7_init 1 none :: ((wsX7_init_r1 ++ (wsX7_init_r2 ++ (wsX7_init_r3 ++ wsX7_init_r4))) ++ wsX10 ++ wsX70 ++ wsX20 ++ wsX40 ++ wsX00 ++ wsX60 ++ wsX50 ++ wsX30)
def wsX7_letter : List Cond := .code yX7_letter cX7_letter 2 (some .int) :: ([.fieldLink RX7 10 "ThrownSacks" "page" "LThrownSacks$Page;", .fieldLink RX7 54 "ThrownSacks$Page" "size" "I", .methodLink RX7 58 yX1_add, .instanceMethod yX1_add, .selects RX1 yX1_add yX1_add, .initialized RX1, .code yX1_add cX1_add 2 none, .fieldLink RX1 15 "ThrownSacks$Page" "size" "I", .fieldLink RX1 9 "ThrownSacks$Page" "codes" "[I"] ++ wsX70 ++ wsX10)
def wsX7_blank : List Cond := .code yX7_blank cX7_blank 2 (some .int) :: ([.fieldLink RX7 10 "ThrownSacks" "page" "LThrownSacks$Page;", .fieldLink RX7 54 "ThrownSacks$Page" "size" "I"] ++ wsX70 ++ wsX10)
def wsX7_fault : List Cond := .code yX7_fault cX7_fault 1 (some .int) :: ([.fieldLink RX7 10 "ThrownSacks" "page" "LThrownSacks$Page;", .methodLink RX7 62 yX1_firstWrong, .instanceMethod yX1_firstWrong, .selects RX1 yX1_firstWrong yX1_firstWrong, .initialized RX1, .code yX1_firstWrong cX1_firstWrong 4 (some .int), .fieldLink RX1 15 "ThrownSacks$Page" "size" "I", .methodLink RX1 19 yX1_codeAt, .instanceMethod yX1_codeAt, .selects RX1 yX1_codeAt yX1_codeAt, .code yX1_codeAt cX1_codeAt 2 (some .int), .fieldLink RX1 9 "ThrownSacks$Page" "codes" "[I", .methodLink RX1 30 yX1_canTellOfHooks, .static yX1_canTellOfHooks, .code yX1_canTellOfHooks cX1_canTellOfHooks 3 (some .boolean)] ++ wsX70 ++ wsX10)
def wsX7_floor_r1 : List Cond := [Cond.fieldLink RX7 10 "ThrownSacks" "page" "LThrownSacks$Page;", Cond.fieldLink RX7 19 "ThrownSacks" "plan" "LThrownSacks$Plan;", Cond.fieldLink RX7 54 "ThrownSacks$Page" "size" "I", Cond.fieldLink RX7 26 "ThrownSacks" "now" "LThrownSacks$Standing;", Cond.fieldLink RX7 36 "ThrownSacks" "best" "LThrownSacks$Best;", Cond.fieldLink RX7 43 "ThrownSacks" "ways" "LThrownSacks$Ways;", Cond.fieldLink RX7 81 "ThrownSacks$Ways" "counted" "Z", Cond.fieldLink RX7 85 "ThrownSacks" "imageKept" "Z", Cond.fieldLink RX7 88 "ThrownSacks" "floorsRead" "I", Cond.fieldLink RX7 91 "ThrownSacks$Plan" "hooks" "I", Cond.methodLink RX7 66 yX1_isFloor, Cond.instanceMethod yX1_isFloor, Cond.selects RX1 yX1_isFloor yX1_isFloor, Cond.initialized RX1, Cond.code yX1_isFloor cX1_isFloor 2 (some .boolean), Cond.fieldLink RX1 15 "ThrownSacks$Page" "size" "I", Cond.methodLink RX1 23 yX1_hooksTold, Cond.instanceMethod yX1_hooksTold, Cond.selects RX1 yX1_hooksTold yX1_hooksTold, Cond.code yX1_hooksTold cX1_hooksTold 2 (some .int), Cond.methodLink RX1 19 yX1_codeAt, Cond.instanceMethod yX1_codeAt, Cond.selects RX1 yX1_codeAt yX1_codeAt, Cond.code yX1_codeAt cX1_codeAt 2 (some .int)]
def wsX7_floor_r2 : List Cond := [Cond.fieldLink RX1 9 "ThrownSacks$Page" "codes" "[I", Cond.methodLink RX1 27 yX1_firstWrong, Cond.instanceMethod yX1_firstWrong, Cond.selects RX1 yX1_firstWrong yX1_firstWrong, Cond.code yX1_firstWrong cX1_firstWrong 4 (some .int), Cond.methodLink RX1 30 yX1_canTellOfHooks, Cond.static yX1_canTellOfHooks, Cond.code yX1_canTellOfHooks cX1_canTellOfHooks 3 (some .boolean), Cond.methodLink RX7 70 yX2_read, Cond.instanceMethod yX2_read, Cond.selects RX2 yX2_read yX2_read, Cond.initialized RX2, Cond.code yX2_read cX2_read 3 none, Cond.methodLink RX2 27 Lib.Math.min.name, Cond.static Lib.Math.min.name, Cond.initialized "java/lang/Math", Cond.code Lib.Math.min.name Lib.Math.min.code 2 (some .int), Cond.fieldLink RX2 33 "ThrownSacks$Plan" "hooks" "I", Cond.fieldLink RX2 9 "ThrownSacks$Plan" "yards" "[I", Cond.fieldLink RX2 15 "ThrownSacks$Plan" "room" "[I", Cond.fieldLink RX2 18 "ThrownSacks$Plan" "often" "[I", Cond.methodLink RX2 21 yX1_hooksTold, Cond.methodLink RX2 37 yX1_digitAt, Cond.instanceMethod yX1_digitAt]
def wsX7_floor_r3 : List Cond := [Cond.selects RX1 yX1_digitAt yX1_digitAt, Cond.code yX1_digitAt cX1_digitAt 2 (some .int), Cond.methodLink RX7 74 yX4_start, Cond.instanceMethod yX4_start, Cond.selects RX4 yX4_start yX4_start, Cond.initialized RX4, Cond.code yX4_start cX4_start 2 none, Cond.fieldLink RX4 9 "ThrownSacks$Standing" "towns" "[I", Cond.fieldLink RX4 17 "ThrownSacks$Standing" "sacks" "[LThrownSacks$Row;", Cond.fieldLink RX4 32 "ThrownSacks$Row" "size" "I", Cond.fieldLink RX4 22 "ThrownSacks$Standing" "belt" "LThrownSacks$Row;", Cond.fieldLink RX4 36 "ThrownSacks$Standing" "found" "I", Cond.fieldLink RX4 39 "ThrownSacks$Standing" "seconds" "I", Cond.fieldLink RX4 42 "ThrownSacks$Standing" "harmed" "I", Cond.methodLink RX7 77 yX0_seek, Cond.instanceMethod yX0_seek, Cond.selects RX0 yX0_seek yX0_seek, Cond.initialized RX0, Cond.code yX0_seek cX0_seek 5 none, Cond.fieldLink RX0 21 "ThrownSacks$Plan" "hooks" "I", Cond.fieldLink RX0 27 "ThrownSacks$Plan" "yards" "[I", Cond.fieldLink RX0 15 "ThrownSacks$Best" "less" "[I", Cond.methodLink RX0 38 Lib.Math.min.name, Cond.fieldLink RX0 18 "ThrownSacks$Best" "rest" "[I"]
def wsX7_floor_r4 : List Cond := [Cond.fieldLink RX0 52 "ThrownSacks$Best" "total" "I", Cond.fieldLink RX0 9 "ThrownSacks$Best" "towns" "[I", Cond.static yX7_costOf, Cond.initialized RX7, Cond.code yX7_costOf cX7_costOf 7 (some .int), Cond.methodLink RX7 264 yX7_tenthsOf, Cond.static yX7_tenthsOf, Cond.code yX7_tenthsOf cX7_tenthsOf 6 (some .int), Cond.methodLink RX7 271 Lib.Math.min.name, Cond.methodLink RX7 276 Lib.Math.max.name, Cond.static Lib.Math.max.name, Cond.code Lib.Math.max.name Lib.Math.max.code 2 (some .int), Cond.methodLink RX7 141 yX7_gripOf, Cond.static yX7_gripOf, Cond.code yX7_gripOf cX7_gripOf 1 (some .int), Cond.fieldLink RX7 268 "ThrownSacks" "GRIPS" "[I", Cond.methodLink RX7 173 yX7_carryTenths, Cond.static yX7_carryTenths, Cond.code yX7_carryTenths cX7_carryTenths 1 (some .int), Cond.methodLink RX7 162 yX7_carrySeconds, Cond.static yX7_carrySeconds, Cond.code yX7_carrySeconds cX7_carrySeconds 1 (some .int), Cond.methodLink RX0 44 yX0_bestTown, Cond.instanceMethod yX0_bestTown]
def wsX7_floor_r5 : List Cond := [Cond.selects RX0 yX0_bestTown yX0_bestTown, Cond.code yX0_bestTown cX0_bestTown 7 (some .int), Cond.methodLink RX0 48 yX0_withTown, Cond.instanceMethod yX0_withTown, Cond.selects RX0 yX0_withTown yX0_withTown, Cond.code yX0_withTown cX0_withTown 6 (some .int), Cond.methodLink RX0 55 yJ6_bitCount_0f7a4, Cond.static yJ6_bitCount_0f7a4, Cond.initialized RJ6, Cond.code yJ6_bitCount_0f7a4 cJ6_bitCount_0f7a4 1 (some .int), Cond.constant RJ6 265 (1431655765), Cond.constant RJ6 266 (858993459), Cond.constant RJ6 267 (252645135), Cond.methodLink RX0 60 yX2_oftenOf, Cond.instanceMethod yX2_oftenOf, Cond.selects RX2 yX2_oftenOf yX2_oftenOf, Cond.code yX2_oftenOf cX2_oftenOf 2 (some .int)]
def wsX7_floor : List Cond := .code yX7_floor cX7_floor 1 (some .int) :: ((wsX7_floor_r1 ++ (wsX7_floor_r2 ++ (wsX7_floor_r3 ++ (wsX7_floor_r4 ++ wsX7_floor_r5)))) ++ wsX70 ++ wsX10 ++ wsX60 ++ wsX20 ++ wsX40 ++ wsX30 ++ wsX00)
def wsX7_isKnown : List Cond := .code yX7_isKnown cX7_isKnown 2 (some .boolean) :: ([.fieldLink RX7 19 "ThrownSacks" "plan" "LThrownSacks$Plan;", .fieldLink RX7 91 "ThrownSacks$Plan" "hooks" "I"] ++ wsX70 ++ wsX20)
def wsX7_hook_r1 : List Cond := [Cond.fieldLink RX7 26 "ThrownSacks" "now" "LThrownSacks$Standing;", Cond.fieldLink RX7 98 "ThrownSacks$Standing" "sacks" "[LThrownSacks$Row;", Cond.fieldLink RX7 102 "ThrownSacks$Standing" "towns" "[I", Cond.fieldLink RX7 19 "ThrownSacks" "plan" "LThrownSacks$Plan;", Cond.fieldLink RX7 106 "ThrownSacks$Plan" "yards" "[I", Cond.fieldLink RX7 109 "ThrownSacks$Plan" "room" "[I", Cond.fieldLink RX7 112 "ThrownSacks$Row" "size" "I", Cond.methodLink RX7 94 yX7_isKnown, Cond.instanceMethod yX7_isKnown, Cond.selects RX7 yX7_isKnown yX7_isKnown, Cond.initialized RX7, Cond.code yX7_isKnown cX7_isKnown 2 (some .boolean), Cond.fieldLink RX7 91 "ThrownSacks$Plan" "hooks" "I", Cond.methodLink RX7 115 yX3_notFor, Cond.instanceMethod yX3_notFor, Cond.selects RX3 yX3_notFor yX3_notFor, Cond.initialized RX3, Cond.code yX3_notFor cX3_notFor 4 (some .int), Cond.fieldLink RX3 22 "ThrownSacks$Row" "size" "I", Cond.fieldLink RX3 15 "ThrownSacks$Row" "towns" "[I", Cond.methodLink RX7 119 yX3_ofKind, Cond.instanceMethod yX3_ofKind, Cond.selects RX3 yX3_ofKind yX3_ofKind, Cond.code yX3_ofKind cX3_ofKind 4 (some .int)]
def wsX7_hook_r2 : List Cond := [Cond.fieldLink RX3 9 "ThrownSacks$Row" "kinds" "[I", Cond.methodLink RX7 122 yX2_oftenOf, Cond.instanceMethod yX2_oftenOf, Cond.selects RX2 yX2_oftenOf yX2_oftenOf, Cond.initialized RX2, Cond.code yX2_oftenOf cX2_oftenOf 2 (some .int), Cond.fieldLink RX2 33 "ThrownSacks$Plan" "hooks" "I", Cond.fieldLink RX2 18 "ThrownSacks$Plan" "often" "[I"]
def wsX7_hook : List Cond := .code yX7_hook cX7_hook 5 (some .int) :: ((wsX7_hook_r1 ++ wsX7_hook_r2) ++ wsX70 ++ wsX40 ++ wsX20 ++ wsX30)
def wsX7_isKind : List Cond := .code yX7_isKind cX7_isKind 1 (some .boolean) :: ([.fieldLink RX7 268 "ThrownSacks" "GRIPS" "[I"])
def wsX7_parcel : List Cond := .code yX7_parcel cX7_parcel 3 (some .int) :: ([.fieldLink RX7 26 "ThrownSacks" "now" "LThrownSacks$Standing;", .fieldLink RX7 128 "ThrownSacks$Standing" "belt" "LThrownSacks$Row;", .fieldLink RX7 112 "ThrownSacks$Row" "size" "I", .methodLink RX7 125 yX7_isKind, .static yX7_isKind, .initialized RX7, .code yX7_isKind cX7_isKind 1 (some .boolean), .fieldLink RX7 268 "ThrownSacks" "GRIPS" "[I", .methodLink RX7 94 yX7_isKnown, .instanceMethod yX7_isKnown, .selects RX7 yX7_isKnown yX7_isKnown, .code yX7_isKnown cX7_isKnown 2 (some .boolean), .fieldLink RX7 19 "ThrownSacks" "plan" "LThrownSacks$Plan;", .fieldLink RX7 91 "ThrownSacks$Plan" "hooks" "I", .methodLink RX7 132 yX3_add, .instanceMethod yX3_add, .selects RX3 yX3_add yX3_add, .initialized RX3, .code yX3_add cX3_add 4 none, .fieldLink RX3 22 "ThrownSacks$Row" "size" "I", .fieldLink RX3 9 "ThrownSacks$Row" "kinds" "[I", .fieldLink RX3 15 "ThrownSacks$Row" "towns" "[I", .fieldLink RX3 18 "ThrownSacks$Row" "harms" "[Z"] ++ wsX70 ++ wsX40 ++ wsX30 ++ wsX20)
def wsX7_belt : List Cond := .code yX7_belt cX7_belt 3 (some .int) :: ([.fieldLink RX7 26 "ThrownSacks" "now" "LThrownSacks$Standing;", .fieldLink RX7 128 "ThrownSacks$Standing" "belt" "LThrownSacks$Row;", .fieldLink RX7 112 "ThrownSacks$Row" "size" "I", .methodLink RX7 135 yX3_kindAt, .instanceMethod yX3_kindAt, .selects RX3 yX3_kindAt yX3_kindAt, .initialized RX3, .code yX3_kindAt cX3_kindAt 2 (some .int), .fieldLink RX3 22 "ThrownSacks$Row" "size" "I", .fieldLink RX3 9 "ThrownSacks$Row" "kinds" "[I", .methodLink RX7 138 yX3_townAt, .instanceMethod yX3_townAt, .selects RX3 yX3_townAt yX3_townAt, .code yX3_townAt cX3_townAt 2 (some .int), .fieldLink RX3 15 "ThrownSacks$Row" "towns" "[I", .methodLink RX7 141 yX7_gripOf, .static yX7_gripOf, .initialized RX7, .code yX7_gripOf cX7_gripOf 1 (some .int), .fieldLink RX7 268 "ThrownSacks" "GRIPS" "[I"] ++ wsX70 ++ wsX40 ++ wsX30)
def wsX7_isA : List Cond := .code yX7_isA cX7_isA 2 (some .boolean) :: ([])
def wsX7_as : List Cond := .code yX7_as cX7_as 3 (some .int) :: ([.fieldLink RX7 26 "ThrownSacks" "now" "LThrownSacks$Standing;", .fieldLink RX7 128 "ThrownSacks$Standing" "belt" "LThrownSacks$Row;", .fieldLink RX7 112 "ThrownSacks$Row" "size" "I", .methodLink RX7 125 yX7_isKind, .static yX7_isKind, .initialized RX7, .code yX7_isKind cX7_isKind 1 (some .boolean), .fieldLink RX7 268 "ThrownSacks" "GRIPS" "[I", .methodLink RX7 135 yX3_kindAt, .instanceMethod yX3_kindAt, .selects RX3 yX3_kindAt yX3_kindAt, .initialized RX3, .code yX3_kindAt cX3_kindAt 2 (some .int), .fieldLink RX3 22 "ThrownSacks$Row" "size" "I", .fieldLink RX3 9 "ThrownSacks$Row" "kinds" "[I", .methodLink RX7 144 yX7_isA, .static yX7_isA, .code yX7_isA cX7_isA 2 (some .boolean), .methodLink RX7 138 yX3_townAt, .instanceMethod yX3_townAt, .selects RX3 yX3_townAt yX3_townAt, .code yX3_townAt cX3_townAt 2 (some .int), .fieldLink RX3 15 "ThrownSacks$Row" "towns" "[I"] ++ wsX70 ++ wsX40 ++ wsX30)
def wsX7_isFull : List Cond := .code yX7_isFull cX7_isFull 2 (some .boolean) :: ([.fieldLink RX7 26 "ThrownSacks" "now" "LThrownSacks$Standing;", .fieldLink RX7 98 "ThrownSacks$Standing" "sacks" "[LThrownSacks$Row;", .fieldLink RX7 112 "ThrownSacks$Row" "size" "I", .fieldLink RX7 19 "ThrownSacks" "plan" "LThrownSacks$Plan;", .fieldLink RX7 109 "ThrownSacks$Plan" "room" "[I", .methodLink RX7 94 yX7_isKnown, .instanceMethod yX7_isKnown, .selects RX7 yX7_isKnown yX7_isKnown, .initialized RX7, .code yX7_isKnown cX7_isKnown 2 (some .boolean), .fieldLink RX7 91 "ThrownSacks$Plan" "hooks" "I"] ++ wsX70 ++ wsX40 ++ wsX30 ++ wsX20)
def wsX7_tenthsAt_r1 : List Cond := [Cond.fieldLink RX7 19 "ThrownSacks" "plan" "LThrownSacks$Plan;", Cond.fieldLink RX7 106 "ThrownSacks$Plan" "yards" "[I", Cond.fieldLink RX7 91 "ThrownSacks$Plan" "hooks" "I", Cond.methodLink RX7 94 yX7_isKnown, Cond.instanceMethod yX7_isKnown, Cond.selects RX7 yX7_isKnown yX7_isKnown, Cond.initialized RX7, Cond.code yX7_isKnown cX7_isKnown 2 (some .boolean), Cond.methodLink RX7 155 yX7_nextTo, Cond.static yX7_nextTo, Cond.code yX7_nextTo cX7_nextTo 2 (some .int), Cond.methodLink RX7 148 yX7_isFull, Cond.instanceMethod yX7_isFull, Cond.selects RX7 yX7_isFull yX7_isFull, Cond.code yX7_isFull cX7_isFull 2 (some .boolean), Cond.fieldLink RX7 26 "ThrownSacks" "now" "LThrownSacks$Standing;", Cond.fieldLink RX7 98 "ThrownSacks$Standing" "sacks" "[LThrownSacks$Row;", Cond.fieldLink RX7 112 "ThrownSacks$Row" "size" "I", Cond.fieldLink RX7 109 "ThrownSacks$Plan" "room" "[I", Cond.methodLink RX7 264 yX7_tenthsOf, Cond.static yX7_tenthsOf, Cond.code yX7_tenthsOf cX7_tenthsOf 6 (some .int), Cond.methodLink RX7 271 Lib.Math.min.name, Cond.static Lib.Math.min.name]
def wsX7_tenthsAt_r2 : List Cond := [Cond.initialized "java/lang/Math", Cond.code Lib.Math.min.name Lib.Math.min.code 2 (some .int), Cond.methodLink RX7 276 Lib.Math.max.name, Cond.static Lib.Math.max.name, Cond.code Lib.Math.max.name Lib.Math.max.code 2 (some .int), Cond.methodLink RX7 141 yX7_gripOf, Cond.static yX7_gripOf, Cond.code yX7_gripOf cX7_gripOf 1 (some .int), Cond.fieldLink RX7 268 "ThrownSacks" "GRIPS" "[I"]
def wsX7_tenthsAt : List Cond := .code yX7_tenthsAt cX7_tenthsAt 4 (some .int) :: ((wsX7_tenthsAt_r1 ++ wsX7_tenthsAt_r2) ++ wsX70 ++ wsX20 ++ wsX40 ++ wsX30)
def wsX7_toss_r1 : List Cond := [Cond.fieldLink RX7 26 "ThrownSacks" "now" "LThrownSacks$Standing;", Cond.fieldLink RX7 128 "ThrownSacks$Standing" "belt" "LThrownSacks$Row;", Cond.fieldLink RX7 112 "ThrownSacks$Row" "size" "I", Cond.fieldLink RX7 19 "ThrownSacks" "plan" "LThrownSacks$Plan;", Cond.fieldLink RX7 91 "ThrownSacks$Plan" "hooks" "I", Cond.fieldLink RX7 159 "ThrownSacks$Standing" "seconds" "I", Cond.fieldLink RX7 106 "ThrownSacks$Plan" "yards" "[I", Cond.methodLink RX7 94 yX7_isKnown, Cond.instanceMethod yX7_isKnown, Cond.selects RX7 yX7_isKnown yX7_isKnown, Cond.initialized RX7, Cond.code yX7_isKnown cX7_isKnown 2 (some .boolean), Cond.methodLink RX7 148 yX7_isFull, Cond.instanceMethod yX7_isFull, Cond.selects RX7 yX7_isFull yX7_isFull, Cond.code yX7_isFull cX7_isFull 2 (some .boolean), Cond.fieldLink RX7 98 "ThrownSacks$Standing" "sacks" "[LThrownSacks$Row;", Cond.fieldLink RX7 109 "ThrownSacks$Plan" "room" "[I", Cond.methodLink RX7 135 yX3_kindAt, Cond.instanceMethod yX3_kindAt, Cond.selects RX3 yX3_kindAt yX3_kindAt, Cond.initialized RX3, Cond.code yX3_kindAt cX3_kindAt 2 (some .int), Cond.fieldLink RX3 22 "ThrownSacks$Row" "size" "I"]
def wsX7_toss_r2 : List Cond := [Cond.fieldLink RX3 9 "ThrownSacks$Row" "kinds" "[I", Cond.methodLink RX7 151 yX7_tenthsAt, Cond.instanceMethod yX7_tenthsAt, Cond.selects RX7 yX7_tenthsAt yX7_tenthsAt, Cond.code yX7_tenthsAt cX7_tenthsAt 4 (some .int), Cond.methodLink RX7 155 yX7_nextTo, Cond.static yX7_nextTo, Cond.code yX7_nextTo cX7_nextTo 2 (some .int), Cond.methodLink RX7 264 yX7_tenthsOf, Cond.static yX7_tenthsOf, Cond.code yX7_tenthsOf cX7_tenthsOf 6 (some .int), Cond.methodLink RX7 271 Lib.Math.min.name, Cond.static Lib.Math.min.name, Cond.initialized "java/lang/Math", Cond.code Lib.Math.min.name Lib.Math.min.code 2 (some .int), Cond.methodLink RX7 276 Lib.Math.max.name, Cond.static Lib.Math.max.name, Cond.code Lib.Math.max.name Lib.Math.max.code 2 (some .int), Cond.methodLink RX7 141 yX7_gripOf, Cond.static yX7_gripOf, Cond.code yX7_gripOf cX7_gripOf 1 (some .int), Cond.fieldLink RX7 268 "ThrownSacks" "GRIPS" "[I", Cond.methodLink RX7 162 yX7_carrySeconds, Cond.static yX7_carrySeconds]
def wsX7_toss_r3 : List Cond := [Cond.code yX7_carrySeconds cX7_carrySeconds 1 (some .int), Cond.methodLink RX7 165 yX4_putFirst, Cond.instanceMethod yX4_putFirst, Cond.selects RX4 yX4_putFirst yX4_putFirst, Cond.initialized RX4, Cond.code yX4_putFirst cX4_putFirst 5 none, Cond.fieldLink RX4 22 "ThrownSacks$Standing" "belt" "LThrownSacks$Row;", Cond.fieldLink RX4 42 "ThrownSacks$Standing" "harmed" "I", Cond.fieldLink RX4 17 "ThrownSacks$Standing" "sacks" "[LThrownSacks$Row;", Cond.methodLink RX4 49 yX3_kindAt, Cond.methodLink RX4 53 yX3_harmGlass, Cond.instanceMethod yX3_harmGlass, Cond.selects RX3 yX3_harmGlass yX3_harmGlass, Cond.code yX3_harmGlass cX3_harmGlass 3 (some .int), Cond.fieldLink RX3 18 "ThrownSacks$Row" "harms" "[Z", Cond.methodLink RX4 57 yX3_townAt, Cond.instanceMethod yX3_townAt, Cond.selects RX3 yX3_townAt yX3_townAt, Cond.code yX3_townAt cX3_townAt 2 (some .int), Cond.fieldLink RX3 15 "ThrownSacks$Row" "towns" "[I", Cond.methodLink RX4 60 yX3_add, Cond.instanceMethod yX3_add, Cond.selects RX3 yX3_add yX3_add, Cond.code yX3_add cX3_add 4 none]
def wsX7_toss_r4 : List Cond := [Cond.methodLink RX4 64 yX3_dropFirst, Cond.instanceMethod yX3_dropFirst, Cond.selects RX3 yX3_dropFirst yX3_dropFirst, Cond.code yX3_dropFirst cX3_dropFirst 2 none, Cond.methodLink RX3 26 Lib.Math.max.name]
def wsX7_toss : List Cond := .code yX7_toss cX7_toss 4 (some .int) :: ((wsX7_toss_r1 ++ (wsX7_toss_r2 ++ (wsX7_toss_r3 ++ wsX7_toss_r4))) ++ wsX70 ++ wsX40 ++ wsX30 ++ wsX20)
def wsX7_carry_r1 : List Cond := [Cond.fieldLink RX7 26 "ThrownSacks" "now" "LThrownSacks$Standing;", Cond.fieldLink RX7 128 "ThrownSacks$Standing" "belt" "LThrownSacks$Row;", Cond.fieldLink RX7 112 "ThrownSacks$Row" "size" "I", Cond.fieldLink RX7 159 "ThrownSacks$Standing" "seconds" "I", Cond.fieldLink RX7 19 "ThrownSacks" "plan" "LThrownSacks$Plan;", Cond.fieldLink RX7 106 "ThrownSacks$Plan" "yards" "[I", Cond.methodLink RX7 94 yX7_isKnown, Cond.instanceMethod yX7_isKnown, Cond.selects RX7 yX7_isKnown yX7_isKnown, Cond.initialized RX7, Cond.code yX7_isKnown cX7_isKnown 2 (some .boolean), Cond.fieldLink RX7 91 "ThrownSacks$Plan" "hooks" "I", Cond.methodLink RX7 148 yX7_isFull, Cond.instanceMethod yX7_isFull, Cond.selects RX7 yX7_isFull yX7_isFull, Cond.code yX7_isFull cX7_isFull 2 (some .boolean), Cond.fieldLink RX7 98 "ThrownSacks$Standing" "sacks" "[LThrownSacks$Row;", Cond.fieldLink RX7 109 "ThrownSacks$Plan" "room" "[I", Cond.methodLink RX7 162 yX7_carrySeconds, Cond.static yX7_carrySeconds, Cond.code yX7_carrySeconds cX7_carrySeconds 1 (some .int), Cond.methodLink RX7 165 yX4_putFirst, Cond.instanceMethod yX4_putFirst, Cond.selects RX4 yX4_putFirst yX4_putFirst]
def wsX7_carry_r2 : List Cond := [Cond.initialized RX4, Cond.code yX4_putFirst cX4_putFirst 5 none, Cond.fieldLink RX4 22 "ThrownSacks$Standing" "belt" "LThrownSacks$Row;", Cond.fieldLink RX4 42 "ThrownSacks$Standing" "harmed" "I", Cond.fieldLink RX4 17 "ThrownSacks$Standing" "sacks" "[LThrownSacks$Row;", Cond.methodLink RX4 49 yX3_kindAt, Cond.instanceMethod yX3_kindAt, Cond.selects RX3 yX3_kindAt yX3_kindAt, Cond.initialized RX3, Cond.code yX3_kindAt cX3_kindAt 2 (some .int), Cond.fieldLink RX3 22 "ThrownSacks$Row" "size" "I", Cond.fieldLink RX3 9 "ThrownSacks$Row" "kinds" "[I", Cond.methodLink RX4 53 yX3_harmGlass, Cond.instanceMethod yX3_harmGlass, Cond.selects RX3 yX3_harmGlass yX3_harmGlass, Cond.code yX3_harmGlass cX3_harmGlass 3 (some .int), Cond.fieldLink RX3 18 "ThrownSacks$Row" "harms" "[Z", Cond.methodLink RX4 57 yX3_townAt, Cond.instanceMethod yX3_townAt, Cond.selects RX3 yX3_townAt yX3_townAt, Cond.code yX3_townAt cX3_townAt 2 (some .int), Cond.fieldLink RX3 15 "ThrownSacks$Row" "towns" "[I", Cond.methodLink RX4 60 yX3_add, Cond.instanceMethod yX3_add]
def wsX7_carry_r3 : List Cond := [Cond.selects RX3 yX3_add yX3_add, Cond.code yX3_add cX3_add 4 none, Cond.methodLink RX4 64 yX3_dropFirst, Cond.instanceMethod yX3_dropFirst, Cond.selects RX3 yX3_dropFirst yX3_dropFirst, Cond.code yX3_dropFirst cX3_dropFirst 2 none, Cond.methodLink RX3 26 Lib.Math.max.name, Cond.static Lib.Math.max.name, Cond.initialized "java/lang/Math", Cond.code Lib.Math.max.name Lib.Math.max.code 2 (some .int)]
def wsX7_carry : List Cond := .code yX7_carry cX7_carry 2 (some .int) :: ((wsX7_carry_r1 ++ (wsX7_carry_r2 ++ wsX7_carry_r3)) ++ wsX70 ++ wsX40 ++ wsX30 ++ wsX20)
def wsX7_change : List Cond := .code yX7_change cX7_change 3 (some .int) :: ([.fieldLink RX7 26 "ThrownSacks" "now" "LThrownSacks$Standing;", .fieldLink RX7 98 "ThrownSacks$Standing" "sacks" "[LThrownSacks$Row;", .fieldLink RX7 112 "ThrownSacks$Row" "size" "I", .fieldLink RX7 159 "ThrownSacks$Standing" "seconds" "I", .methodLink RX7 94 yX7_isKnown, .instanceMethod yX7_isKnown, .selects RX7 yX7_isKnown yX7_isKnown, .initialized RX7, .code yX7_isKnown cX7_isKnown 2 (some .boolean), .fieldLink RX7 19 "ThrownSacks" "plan" "LThrownSacks$Plan;", .fieldLink RX7 91 "ThrownSacks$Plan" "hooks" "I"] ++ wsX70 ++ wsX40 ++ wsX30 ++ wsX20)
def wsX7_exchange : List Cond := .code yX7_exchange cX7_exchange 3 (some .int) :: ([.fieldLink RX7 26 "ThrownSacks" "now" "LThrownSacks$Standing;", .fieldLink RX7 98 "ThrownSacks$Standing" "sacks" "[LThrownSacks$Row;", .fieldLink RX7 112 "ThrownSacks$Row" "size" "I", .fieldLink RX7 19 "ThrownSacks" "plan" "LThrownSacks$Plan;", .fieldLink RX7 109 "ThrownSacks$Plan" "room" "[I", .fieldLink RX7 159 "ThrownSacks$Standing" "seconds" "I", .methodLink RX7 94 yX7_isKnown, .instanceMethod yX7_isKnown, .selects RX7 yX7_isKnown yX7_isKnown, .initialized RX7, .code yX7_isKnown cX7_isKnown 2 (some .boolean), .fieldLink RX7 91 "ThrownSacks$Plan" "hooks" "I", .methodLink RX7 169 yX4_swap, .instanceMethod yX4_swap, .selects RX4 yX4_swap yX4_swap, .initialized RX4, .code yX4_swap cX4_swap 5 none, .fieldLink RX4 17 "ThrownSacks$Standing" "sacks" "[LThrownSacks$Row;", .fieldLink RX4 9 "ThrownSacks$Standing" "towns" "[I"] ++ wsX70 ++ wsX40 ++ wsX30 ++ wsX20)
def wsX7_odds_r1 : List Cond := [Cond.fieldLink RX7 19 "ThrownSacks" "plan" "LThrownSacks$Plan;", Cond.fieldLink RX7 106 "ThrownSacks$Plan" "yards" "[I", Cond.fieldLink RX7 91 "ThrownSacks$Plan" "hooks" "I", Cond.methodLink RX7 125 yX7_isKind, Cond.static yX7_isKind, Cond.initialized RX7, Cond.code yX7_isKind cX7_isKind 1 (some .boolean), Cond.fieldLink RX7 268 "ThrownSacks" "GRIPS" "[I", Cond.methodLink RX7 94 yX7_isKnown, Cond.instanceMethod yX7_isKnown, Cond.selects RX7 yX7_isKnown yX7_isKnown, Cond.code yX7_isKnown cX7_isKnown 2 (some .boolean), Cond.methodLink RX7 173 yX7_carryTenths, Cond.static yX7_carryTenths, Cond.code yX7_carryTenths cX7_carryTenths 1 (some .int), Cond.methodLink RX7 162 yX7_carrySeconds, Cond.static yX7_carrySeconds, Cond.code yX7_carrySeconds cX7_carrySeconds 1 (some .int), Cond.methodLink RX7 155 yX7_nextTo, Cond.static yX7_nextTo, Cond.code yX7_nextTo cX7_nextTo 2 (some .int), Cond.methodLink RX7 148 yX7_isFull, Cond.instanceMethod yX7_isFull, Cond.selects RX7 yX7_isFull yX7_isFull]
def wsX7_odds_r2 : List Cond := [Cond.code yX7_isFull cX7_isFull 2 (some .boolean), Cond.fieldLink RX7 26 "ThrownSacks" "now" "LThrownSacks$Standing;", Cond.fieldLink RX7 98 "ThrownSacks$Standing" "sacks" "[LThrownSacks$Row;", Cond.fieldLink RX7 112 "ThrownSacks$Row" "size" "I", Cond.fieldLink RX7 109 "ThrownSacks$Plan" "room" "[I", Cond.methodLink RX7 176 yX7_costOf, Cond.static yX7_costOf, Cond.code yX7_costOf cX7_costOf 7 (some .int), Cond.methodLink RX7 264 yX7_tenthsOf, Cond.static yX7_tenthsOf, Cond.code yX7_tenthsOf cX7_tenthsOf 6 (some .int), Cond.methodLink RX7 271 Lib.Math.min.name, Cond.static Lib.Math.min.name, Cond.initialized "java/lang/Math", Cond.code Lib.Math.min.name Lib.Math.min.code 2 (some .int), Cond.methodLink RX7 276 Lib.Math.max.name, Cond.static Lib.Math.max.name, Cond.code Lib.Math.max.name Lib.Math.max.code 2 (some .int), Cond.methodLink RX7 141 yX7_gripOf, Cond.static yX7_gripOf, Cond.code yX7_gripOf cX7_gripOf 1 (some .int), Cond.methodLink RX7 151 yX7_tenthsAt, Cond.instanceMethod yX7_tenthsAt, Cond.selects RX7 yX7_tenthsAt yX7_tenthsAt]
def wsX7_odds_r3 : List Cond := [Cond.code yX7_tenthsAt cX7_tenthsAt 4 (some .int)]
def wsX7_odds : List Cond := .code yX7_odds cX7_odds 6 (some .int) :: ((wsX7_odds_r1 ++ (wsX7_odds_r2 ++ wsX7_odds_r3)) ++ wsX70 ++ wsX20 ++ wsX40 ++ wsX30)
def wsX7_hanging : List Cond := .code yX7_hanging cX7_hanging 3 (some .int) :: ([.fieldLink RX7 19 "ThrownSacks" "plan" "LThrownSacks$Plan;", .fieldLink RX7 91 "ThrownSacks$Plan" "hooks" "I", .fieldLink RX7 36 "ThrownSacks" "best" "LThrownSacks$Best;", .fieldLink RX7 180 "ThrownSacks$Best" "total" "I", .fieldLink RX7 26 "ThrownSacks" "now" "LThrownSacks$Standing;", .fieldLink RX7 187 "ThrownSacks$Best" "towns" "[I", .methodLink RX7 183 yX0_exchangesFrom, .instanceMethod yX0_exchangesFrom, .selects RX0 yX0_exchangesFrom yX0_exchangesFrom, .initialized RX0, .code yX0_exchangesFrom cX0_exchangesFrom 8 (some .int), .fieldLink RX0 9 "ThrownSacks$Best" "towns" "[I", .methodLink RX0 63 yX4_hookOf, .instanceMethod yX4_hookOf, .selects RX4 yX4_hookOf yX4_hookOf, .initialized RX4, .code yX4_hookOf cX4_hookOf 3 (some .int), .fieldLink RX4 9 "ThrownSacks$Standing" "towns" "[I", .methodLink RX7 94 yX7_isKnown, .instanceMethod yX7_isKnown, .selects RX7 yX7_isKnown yX7_isKnown, .initialized RX7, .code yX7_isKnown cX7_isKnown 2 (some .boolean)] ++ wsX70 ++ wsX20 ++ wsX00 ++ wsX40)
def wsX7_found : List Cond := .code yX7_found cX7_found 3 (some .int) :: ([.fieldLink RX7 26 "ThrownSacks" "now" "LThrownSacks$Standing;", .fieldLink RX7 188 "ThrownSacks$Standing" "found" "I", .fieldLink RX7 43 "ThrownSacks" "ways" "LThrownSacks$Ways;", .fieldLink RX7 81 "ThrownSacks$Ways" "counted" "Z", .methodLink RX7 94 yX7_isKnown, .instanceMethod yX7_isKnown, .selects RX7 yX7_isKnown yX7_isKnown, .initialized RX7, .code yX7_isKnown cX7_isKnown 2 (some .boolean), .fieldLink RX7 19 "ThrownSacks" "plan" "LThrownSacks$Plan;", .fieldLink RX7 91 "ThrownSacks$Plan" "hooks" "I", .methodLink RX7 191 yX4_addFound, .instanceMethod yX4_addFound, .selects RX4 yX4_addFound yX4_addFound, .initialized RX4, .code yX4_addFound cX4_addFound 3 none, .fieldLink RX4 36 "ThrownSacks$Standing" "found" "I", .fieldLink RX4 26 "ThrownSacks$Standing" "foundTowns" "[I", .fieldLink RX4 29 "ThrownSacks$Standing" "foundIn" "[I"] ++ wsX70 ++ wsX40 ++ wsX60 ++ wsX20)
def wsX7_forget : List Cond := .code yX7_forget cX7_forget 2 (some .int) :: ([.fieldLink RX7 26 "ThrownSacks" "now" "LThrownSacks$Standing;", .fieldLink RX7 188 "ThrownSacks$Standing" "found" "I", .fieldLink RX7 43 "ThrownSacks" "ways" "LThrownSacks$Ways;", .fieldLink RX7 81 "ThrownSacks$Ways" "counted" "Z"] ++ wsX70 ++ wsX40 ++ wsX60)
def wsX7_hung_r1 : List Cond := [Cond.fieldLink RX7 19 "ThrownSacks" "plan" "LThrownSacks$Plan;", Cond.fieldLink RX7 91 "ThrownSacks$Plan" "hooks" "I", Cond.fieldLink RX7 43 "ThrownSacks" "ways" "LThrownSacks$Ways;", Cond.fieldLink RX7 26 "ThrownSacks" "now" "LThrownSacks$Standing;", Cond.fieldLink RX7 197 "ThrownSacks$Ways" "many" "I", Cond.methodLink RX7 194 yX6_seek, Cond.instanceMethod yX6_seek, Cond.selects RX6 yX6_seek yX6_seek, Cond.initialized RX6, Cond.code yX6_seek cX6_seek 3 none, Cond.fieldLink RX6 21 "ThrownSacks$Ways" "counted" "Z", Cond.fieldLink RX6 25 "ThrownSacks$Ways" "many" "I", Cond.fieldLink RX6 18 "ThrownSacks$Ways" "places" "[I", Cond.methodLink RX6 39 Lib.Math.min.name, Cond.static Lib.Math.min.name, Cond.initialized "java/lang/Math", Cond.code Lib.Math.min.name Lib.Math.min.code 2 (some .int), Cond.methodLink RX6 29 yJ7_fill_53178, Cond.static yJ7_fill_53178, Cond.initialized RJ7, Cond.code yJ7_fill_53178 cJ7_fill_53178 4 none, Cond.methodLink RX6 35 yX6_askAllFound, Cond.instanceMethod yX6_askAllFound, Cond.selects RX6 yX6_askAllFound yX6_askAllFound]
def wsX7_hung_r2 : List Cond := [Cond.code yX6_askAllFound cX6_askAllFound 5 (some .boolean), Cond.fieldLink RX6 15 "ThrownSacks$Ways" "beyond" "[I", Cond.fieldLink RX6 49 "ThrownSacks$Standing" "found" "I", Cond.fieldLink RX6 54 "ThrownSacks$Standing" "foundTowns" "[I", Cond.fieldLink RX6 57 "ThrownSacks$Standing" "foundIn" "[I", Cond.methodLink RX6 45 yX6_hangFrom, Cond.static yX6_hangFrom, Cond.code yX6_hangFrom cX6_hangFrom 5 none, Cond.fieldLink RX6 9 "ThrownSacks$Ways" "towns" "[I", Cond.methodLink RX6 60 yX6_keep, Cond.instanceMethod yX6_keep, Cond.selects RX6 yX6_keep yX6_keep, Cond.code yX6_keep cX6_keep 3 none, Cond.methodLink RX6 64 yX6_canHang, Cond.instanceMethod yX6_canHang, Cond.selects RX6 yX6_canHang yX6_canHang, Cond.code yX6_canHang cX6_canHang 5 (some .boolean)]
def wsX7_hung : List Cond := .code yX7_hung cX7_hung 1 (some .int) :: ((wsX7_hung_r1 ++ wsX7_hung_r2) ++ wsX70 ++ wsX20 ++ wsX60 ++ wsX40)
def wsX7_where_r1 : List Cond := [Cond.fieldLink RX7 43 "ThrownSacks" "ways" "LThrownSacks$Ways;", Cond.fieldLink RX7 26 "ThrownSacks" "now" "LThrownSacks$Standing;", Cond.fieldLink RX7 19 "ThrownSacks" "plan" "LThrownSacks$Plan;", Cond.fieldLink RX7 91 "ThrownSacks$Plan" "hooks" "I", Cond.fieldLink RX7 200 "ThrownSacks$Ways" "places" "[I", Cond.methodLink RX7 94 yX7_isKnown, Cond.instanceMethod yX7_isKnown, Cond.selects RX7 yX7_isKnown yX7_isKnown, Cond.initialized RX7, Cond.code yX7_isKnown cX7_isKnown 2 (some .boolean), Cond.methodLink RX7 194 yX6_seek, Cond.instanceMethod yX6_seek, Cond.selects RX6 yX6_seek yX6_seek, Cond.initialized RX6, Cond.code yX6_seek cX6_seek 3 none, Cond.fieldLink RX6 21 "ThrownSacks$Ways" "counted" "Z", Cond.fieldLink RX6 25 "ThrownSacks$Ways" "many" "I", Cond.fieldLink RX6 18 "ThrownSacks$Ways" "places" "[I", Cond.methodLink RX6 39 Lib.Math.min.name, Cond.static Lib.Math.min.name, Cond.initialized "java/lang/Math", Cond.code Lib.Math.min.name Lib.Math.min.code 2 (some .int), Cond.methodLink RX6 29 yJ7_fill_53178, Cond.static yJ7_fill_53178]
def wsX7_where_r2 : List Cond := [Cond.initialized RJ7, Cond.code yJ7_fill_53178 cJ7_fill_53178 4 none, Cond.methodLink RX6 35 yX6_askAllFound, Cond.instanceMethod yX6_askAllFound, Cond.selects RX6 yX6_askAllFound yX6_askAllFound, Cond.code yX6_askAllFound cX6_askAllFound 5 (some .boolean), Cond.fieldLink RX6 15 "ThrownSacks$Ways" "beyond" "[I", Cond.fieldLink RX6 49 "ThrownSacks$Standing" "found" "I", Cond.fieldLink RX6 54 "ThrownSacks$Standing" "foundTowns" "[I", Cond.fieldLink RX6 57 "ThrownSacks$Standing" "foundIn" "[I", Cond.methodLink RX6 45 yX6_hangFrom, Cond.static yX6_hangFrom, Cond.code yX6_hangFrom cX6_hangFrom 5 none, Cond.fieldLink RX6 9 "ThrownSacks$Ways" "towns" "[I", Cond.methodLink RX6 60 yX6_keep, Cond.instanceMethod yX6_keep, Cond.selects RX6 yX6_keep yX6_keep, Cond.code yX6_keep cX6_keep 3 none, Cond.methodLink RX6 64 yX6_canHang, Cond.instanceMethod yX6_canHang, Cond.selects RX6 yX6_canHang yX6_canHang, Cond.code yX6_canHang cX6_canHang 5 (some .boolean)]
def wsX7_where : List Cond := .code yX7_where cX7_where 2 (some .int) :: ((wsX7_where_r1 ++ wsX7_where_r2) ++ wsX70 ++ wsX20 ++ wsX60 ++ wsX40)
def wsX7_shifts_r1 : List Cond := [Cond.fieldLink RX7 19 "ThrownSacks" "plan" "LThrownSacks$Plan;", Cond.fieldLink RX7 91 "ThrownSacks$Plan" "hooks" "I", Cond.fieldLink RX7 50 "ThrownSacks" "trial" "LThrownSacks$Trial;", Cond.fieldLink RX7 26 "ThrownSacks" "now" "LThrownSacks$Standing;", Cond.fieldLink RX7 207 "ThrownSacks$Trial" "cameNext" "I", Cond.fieldLink RX7 210 "ThrownSacks$Trial" "layBeside" "I", Cond.fieldLink RX7 213 "ThrownSacks$Trial" "seed" "I", Cond.methodLink RX7 203 yX5_run, Cond.instanceMethod yX5_run, Cond.selects RX5 yX5_run yX5_run, Cond.initialized RX5, Cond.code yX5_run cX5_run 7 none, Cond.fieldLink RX5 9 "ThrownSacks$Trial" "held" "[I", Cond.fieldLink RX5 21 "ThrownSacks$Trial" "seed" "I", Cond.fieldLink RX5 25 "ThrownSacks$Trial" "cameNext" "I", Cond.fieldLink RX5 28 "ThrownSacks$Trial" "layBeside" "I", Cond.fieldLink RX5 31 "ThrownSacks$Plan" "hooks" "I", Cond.methodLink RX5 15 yJ7_fill_53178, Cond.static yJ7_fill_53178, Cond.initialized RJ7, Cond.code yJ7_fill_53178 cJ7_fill_53178 4 none, Cond.methodLink RX5 36 yX5_draw, Cond.instanceMethod yX5_draw, Cond.selects RX5 yX5_draw yX5_draw]
def wsX7_shifts_r2 : List Cond := [Cond.code yX5_draw cX5_draw 2 (some .int), Cond.constantLong RX5 63 (1103515245), Cond.constantLong RX5 65 (12345), Cond.constantLong RX5 67 (2147483647), Cond.methodLink RX5 40 yX4_hookOf, Cond.instanceMethod yX4_hookOf, Cond.selects RX4 yX4_hookOf yX4_hookOf, Cond.initialized RX4, Cond.code yX4_hookOf cX4_hookOf 3 (some .int), Cond.fieldLink RX4 9 "ThrownSacks$Standing" "towns" "[I", Cond.methodLink RX5 45 yX5_throwAt, Cond.instanceMethod yX5_throwAt, Cond.selects RX5 yX5_throwAt yX5_throwAt, Cond.code yX5_throwAt cX5_throwAt 8 none, Cond.fieldLink RX5 49 "ThrownSacks$Plan" "room" "[I", Cond.fieldLink RX5 56 "ThrownSacks$Plan" "yards" "[I", Cond.static yX7_nextTo, Cond.initialized RX7, Cond.code yX7_nextTo cX7_nextTo 2 (some .int), Cond.static yX7_tenthsOf, Cond.code yX7_tenthsOf cX7_tenthsOf 6 (some .int), Cond.methodLink RX7 271 Lib.Math.min.name, Cond.static Lib.Math.min.name, Cond.initialized "java/lang/Math"]
def wsX7_shifts_r3 : List Cond := [Cond.code Lib.Math.min.name Lib.Math.min.code 2 (some .int), Cond.methodLink RX7 276 Lib.Math.max.name, Cond.static Lib.Math.max.name, Cond.code Lib.Math.max.name Lib.Math.max.code 2 (some .int), Cond.methodLink RX7 141 yX7_gripOf, Cond.static yX7_gripOf, Cond.code yX7_gripOf cX7_gripOf 1 (some .int), Cond.fieldLink RX7 268 "ThrownSacks" "GRIPS" "[I"]
def wsX7_shifts : List Cond := .code yX7_shifts cX7_shifts 4 (some .int) :: ((wsX7_shifts_r1 ++ (wsX7_shifts_r2 ++ wsX7_shifts_r3)) ++ wsX70 ++ wsX20 ++ wsX50 ++ wsX40)
def wsX7_image_r1 : List Cond := [Cond.fieldLink RX7 19 "ThrownSacks" "plan" "LThrownSacks$Plan;", Cond.fieldLink RX7 91 "ThrownSacks$Plan" "hooks" "I", Cond.fieldLink RX7 30 "ThrownSacks" "kept" "LThrownSacks$Standing;", Cond.fieldLink RX7 26 "ThrownSacks" "now" "LThrownSacks$Standing;", Cond.fieldLink RX7 85 "ThrownSacks" "imageKept" "Z", Cond.fieldLink RX7 159 "ThrownSacks$Standing" "seconds" "I", Cond.methodLink RX7 216 yX4_copy, Cond.instanceMethod yX4_copy, Cond.selects RX4 yX4_copy yX4_copy, Cond.initialized RX4, Cond.code yX4_copy cX4_copy 3 none, Cond.fieldLink RX4 9 "ThrownSacks$Standing" "towns" "[I", Cond.fieldLink RX4 17 "ThrownSacks$Standing" "sacks" "[LThrownSacks$Row;", Cond.fieldLink RX4 22 "ThrownSacks$Standing" "belt" "LThrownSacks$Row;", Cond.fieldLink RX4 26 "ThrownSacks$Standing" "foundTowns" "[I", Cond.fieldLink RX4 29 "ThrownSacks$Standing" "foundIn" "[I", Cond.fieldLink RX4 36 "ThrownSacks$Standing" "found" "I", Cond.fieldLink RX4 39 "ThrownSacks$Standing" "seconds" "I", Cond.fieldLink RX4 42 "ThrownSacks$Standing" "harmed" "I", Cond.methodLink RX4 45 yX3_copy, Cond.instanceMethod yX3_copy, Cond.selects RX3 yX3_copy yX3_copy, Cond.initialized RX3, Cond.code yX3_copy cX3_copy 3 none]
def wsX7_image_r2 : List Cond := [Cond.fieldLink RX3 22 "ThrownSacks$Row" "size" "I", Cond.fieldLink RX3 9 "ThrownSacks$Row" "kinds" "[I", Cond.fieldLink RX3 15 "ThrownSacks$Row" "towns" "[I", Cond.fieldLink RX3 18 "ThrownSacks$Row" "harms" "[Z"]
def wsX7_image : List Cond := .code yX7_image cX7_image 1 (some .int) :: ((wsX7_image_r1 ++ wsX7_image_r2) ++ wsX70 ++ wsX20 ++ wsX40 ++ wsX30)
def wsX7_restore_r1 : List Cond := [Cond.fieldLink RX7 85 "ThrownSacks" "imageKept" "Z", Cond.fieldLink RX7 26 "ThrownSacks" "now" "LThrownSacks$Standing;", Cond.fieldLink RX7 30 "ThrownSacks" "kept" "LThrownSacks$Standing;", Cond.fieldLink RX7 43 "ThrownSacks" "ways" "LThrownSacks$Ways;", Cond.fieldLink RX7 81 "ThrownSacks$Ways" "counted" "Z", Cond.fieldLink RX7 159 "ThrownSacks$Standing" "seconds" "I", Cond.methodLink RX7 216 yX4_copy, Cond.instanceMethod yX4_copy, Cond.selects RX4 yX4_copy yX4_copy, Cond.initialized RX4, Cond.code yX4_copy cX4_copy 3 none, Cond.fieldLink RX4 9 "ThrownSacks$Standing" "towns" "[I", Cond.fieldLink RX4 17 "ThrownSacks$Standing" "sacks" "[LThrownSacks$Row;", Cond.fieldLink RX4 22 "ThrownSacks$Standing" "belt" "LThrownSacks$Row;", Cond.fieldLink RX4 26 "ThrownSacks$Standing" "foundTowns" "[I", Cond.fieldLink RX4 29 "ThrownSacks$Standing" "foundIn" "[I", Cond.fieldLink RX4 36 "ThrownSacks$Standing" "found" "I", Cond.fieldLink RX4 39 "ThrownSacks$Standing" "seconds" "I", Cond.fieldLink RX4 42 "ThrownSacks$Standing" "harmed" "I", Cond.methodLink RX4 45 yX3_copy, Cond.instanceMethod yX3_copy, Cond.selects RX3 yX3_copy yX3_copy, Cond.initialized RX3, Cond.code yX3_copy cX3_copy 3 none]
def wsX7_restore_r2 : List Cond := [Cond.fieldLink RX3 22 "ThrownSacks$Row" "size" "I", Cond.fieldLink RX3 9 "ThrownSacks$Row" "kinds" "[I", Cond.fieldLink RX3 15 "ThrownSacks$Row" "towns" "[I", Cond.fieldLink RX3 18 "ThrownSacks$Row" "harms" "[Z"]
def wsX7_restore : List Cond := .code yX7_restore cX7_restore 1 (some .int) :: ((wsX7_restore_r1 ++ wsX7_restore_r2) ++ wsX70 ++ wsX60 ++ wsX40 ++ wsX30)
def wsX7_count_r1 : List Cond := [Cond.fieldLink RX7 19 "ThrownSacks" "plan" "LThrownSacks$Plan;", Cond.fieldLink RX7 91 "ThrownSacks$Plan" "hooks" "I", Cond.fieldLink RX7 26 "ThrownSacks" "now" "LThrownSacks$Standing;", Cond.fieldLink RX7 128 "ThrownSacks$Standing" "belt" "LThrownSacks$Row;", Cond.fieldLink RX7 112 "ThrownSacks$Row" "size" "I", Cond.fieldLink RX7 159 "ThrownSacks$Standing" "seconds" "I", Cond.fieldLink RX7 226 "ThrownSacks$Standing" "harmed" "I", Cond.fieldLink RX7 188 "ThrownSacks$Standing" "found" "I", Cond.fieldLink RX7 10 "ThrownSacks" "page" "LThrownSacks$Page;", Cond.fieldLink RX7 54 "ThrownSacks$Page" "size" "I", Cond.fieldLink RX7 88 "ThrownSacks" "floorsRead" "I", Cond.methodLink RX7 220 yX4_inSacks, Cond.instanceMethod yX4_inSacks, Cond.selects RX4 yX4_inSacks yX4_inSacks, Cond.initialized RX4, Cond.code yX4_inSacks cX4_inSacks 4 (some .int), Cond.fieldLink RX4 17 "ThrownSacks$Standing" "sacks" "[LThrownSacks$Row;", Cond.fieldLink RX4 32 "ThrownSacks$Row" "size" "I", Cond.methodLink RX7 223 yX4_wrongInSacks, Cond.instanceMethod yX4_wrongInSacks, Cond.selects RX4 yX4_wrongInSacks yX4_wrongInSacks, Cond.code yX4_wrongInSacks cX4_wrongInSacks 4 (some .int), Cond.fieldLink RX4 9 "ThrownSacks$Standing" "towns" "[I", Cond.methodLink RX4 67 yX3_notFor]
def wsX7_count_r2 : List Cond := [Cond.instanceMethod yX3_notFor, Cond.selects RX3 yX3_notFor yX3_notFor, Cond.initialized RX3, Cond.code yX3_notFor cX3_notFor 4 (some .int), Cond.fieldLink RX3 22 "ThrownSacks$Row" "size" "I", Cond.fieldLink RX3 15 "ThrownSacks$Row" "towns" "[I"]
def wsX7_count : List Cond := .code yX7_count cX7_count 2 (some .int) :: ((wsX7_count_r1 ++ wsX7_count_r2) ++ wsX70 ++ wsX20 ++ wsX40 ++ wsX30 ++ wsX10)
def wsX7_withHook_r1 : List Cond := [Cond.constantLong RX7 235 (31), Cond.methodLink RX7 249 yX7_hook, Cond.instanceMethod yX7_hook, Cond.selects RX7 yX7_hook yX7_hook, Cond.initialized RX7, Cond.code yX7_hook cX7_hook 5 (some .int), Cond.fieldLink RX7 26 "ThrownSacks" "now" "LThrownSacks$Standing;", Cond.fieldLink RX7 98 "ThrownSacks$Standing" "sacks" "[LThrownSacks$Row;", Cond.fieldLink RX7 102 "ThrownSacks$Standing" "towns" "[I", Cond.fieldLink RX7 19 "ThrownSacks" "plan" "LThrownSacks$Plan;", Cond.fieldLink RX7 106 "ThrownSacks$Plan" "yards" "[I", Cond.fieldLink RX7 109 "ThrownSacks$Plan" "room" "[I", Cond.fieldLink RX7 112 "ThrownSacks$Row" "size" "I", Cond.methodLink RX7 94 yX7_isKnown, Cond.instanceMethod yX7_isKnown, Cond.selects RX7 yX7_isKnown yX7_isKnown, Cond.code yX7_isKnown cX7_isKnown 2 (some .boolean), Cond.fieldLink RX7 91 "ThrownSacks$Plan" "hooks" "I", Cond.methodLink RX7 115 yX3_notFor, Cond.instanceMethod yX3_notFor, Cond.selects RX3 yX3_notFor yX3_notFor, Cond.initialized RX3, Cond.code yX3_notFor cX3_notFor 4 (some .int), Cond.fieldLink RX3 22 "ThrownSacks$Row" "size" "I"]
def wsX7_withHook_r2 : List Cond := [Cond.fieldLink RX3 15 "ThrownSacks$Row" "towns" "[I", Cond.methodLink RX7 119 yX3_ofKind, Cond.instanceMethod yX3_ofKind, Cond.selects RX3 yX3_ofKind yX3_ofKind, Cond.code yX3_ofKind cX3_ofKind 4 (some .int), Cond.fieldLink RX3 9 "ThrownSacks$Row" "kinds" "[I", Cond.methodLink RX7 122 yX2_oftenOf, Cond.instanceMethod yX2_oftenOf, Cond.selects RX2 yX2_oftenOf yX2_oftenOf, Cond.initialized RX2, Cond.code yX2_oftenOf cX2_oftenOf 2 (some .int), Cond.fieldLink RX2 33 "ThrownSacks$Plan" "hooks" "I", Cond.fieldLink RX2 18 "ThrownSacks$Plan" "often" "[I", Cond.methodLink RX7 252 yX7_odds, Cond.instanceMethod yX7_odds, Cond.selects RX7 yX7_odds yX7_odds, Cond.code yX7_odds cX7_odds 6 (some .int), Cond.methodLink RX7 125 yX7_isKind, Cond.static yX7_isKind, Cond.code yX7_isKind cX7_isKind 1 (some .boolean), Cond.fieldLink RX7 268 "ThrownSacks" "GRIPS" "[I", Cond.methodLink RX7 173 yX7_carryTenths, Cond.static yX7_carryTenths, Cond.code yX7_carryTenths cX7_carryTenths 1 (some .int)]
def wsX7_withHook_r3 : List Cond := [Cond.methodLink RX7 162 yX7_carrySeconds, Cond.static yX7_carrySeconds, Cond.code yX7_carrySeconds cX7_carrySeconds 1 (some .int), Cond.methodLink RX7 155 yX7_nextTo, Cond.static yX7_nextTo, Cond.code yX7_nextTo cX7_nextTo 2 (some .int), Cond.methodLink RX7 148 yX7_isFull, Cond.instanceMethod yX7_isFull, Cond.selects RX7 yX7_isFull yX7_isFull, Cond.code yX7_isFull cX7_isFull 2 (some .boolean), Cond.methodLink RX7 176 yX7_costOf, Cond.static yX7_costOf, Cond.code yX7_costOf cX7_costOf 7 (some .int), Cond.methodLink RX7 264 yX7_tenthsOf, Cond.static yX7_tenthsOf, Cond.code yX7_tenthsOf cX7_tenthsOf 6 (some .int), Cond.methodLink RX7 271 Lib.Math.min.name, Cond.static Lib.Math.min.name, Cond.initialized "java/lang/Math", Cond.code Lib.Math.min.name Lib.Math.min.code 2 (some .int), Cond.methodLink RX7 276 Lib.Math.max.name, Cond.static Lib.Math.max.name, Cond.code Lib.Math.max.name Lib.Math.max.code 2 (some .int), Cond.methodLink RX7 141 yX7_gripOf]
def wsX7_withHook_r4 : List Cond := [Cond.static yX7_gripOf, Cond.code yX7_gripOf cX7_gripOf 1 (some .int), Cond.methodLink RX7 151 yX7_tenthsAt, Cond.instanceMethod yX7_tenthsAt, Cond.selects RX7 yX7_tenthsAt yX7_tenthsAt, Cond.code yX7_tenthsAt cX7_tenthsAt 4 (some .int)]
def wsX7_withHook : List Cond := .code yX7_withHook cX7_withHook 7 (some .long) :: ((wsX7_withHook_r1 ++ (wsX7_withHook_r2 ++ (wsX7_withHook_r3 ++ wsX7_withHook_r4))) ++ wsX70 ++ wsX40 ++ wsX20 ++ wsX30)
def wsX7_withHanging_r1 : List Cond := [Cond.constantLong RX7 235 (31), Cond.fieldLink RX7 19 "ThrownSacks" "plan" "LThrownSacks$Plan;", Cond.fieldLink RX7 91 "ThrownSacks$Plan" "hooks" "I", Cond.methodLink RX7 255 yX7_hanging, Cond.instanceMethod yX7_hanging, Cond.selects RX7 yX7_hanging yX7_hanging, Cond.initialized RX7, Cond.code yX7_hanging cX7_hanging 3 (some .int), Cond.fieldLink RX7 36 "ThrownSacks" "best" "LThrownSacks$Best;", Cond.fieldLink RX7 180 "ThrownSacks$Best" "total" "I", Cond.fieldLink RX7 26 "ThrownSacks" "now" "LThrownSacks$Standing;", Cond.fieldLink RX7 187 "ThrownSacks$Best" "towns" "[I", Cond.methodLink RX7 183 yX0_exchangesFrom, Cond.instanceMethod yX0_exchangesFrom, Cond.selects RX0 yX0_exchangesFrom yX0_exchangesFrom, Cond.initialized RX0, Cond.code yX0_exchangesFrom cX0_exchangesFrom 8 (some .int), Cond.fieldLink RX0 9 "ThrownSacks$Best" "towns" "[I", Cond.methodLink RX0 63 yX4_hookOf, Cond.instanceMethod yX4_hookOf, Cond.selects RX4 yX4_hookOf yX4_hookOf, Cond.initialized RX4, Cond.code yX4_hookOf cX4_hookOf 3 (some .int), Cond.fieldLink RX4 9 "ThrownSacks$Standing" "towns" "[I"]
def wsX7_withHanging_r2 : List Cond := [Cond.methodLink RX7 94 yX7_isKnown, Cond.instanceMethod yX7_isKnown, Cond.selects RX7 yX7_isKnown yX7_isKnown, Cond.code yX7_isKnown cX7_isKnown 2 (some .boolean), Cond.methodLink RX7 258 yX7_hung, Cond.instanceMethod yX7_hung, Cond.selects RX7 yX7_hung yX7_hung, Cond.code yX7_hung cX7_hung 1 (some .int), Cond.fieldLink RX7 43 "ThrownSacks" "ways" "LThrownSacks$Ways;", Cond.fieldLink RX7 197 "ThrownSacks$Ways" "many" "I", Cond.methodLink RX7 194 yX6_seek, Cond.instanceMethod yX6_seek, Cond.selects RX6 yX6_seek yX6_seek, Cond.initialized RX6, Cond.code yX6_seek cX6_seek 3 none, Cond.fieldLink RX6 21 "ThrownSacks$Ways" "counted" "Z", Cond.fieldLink RX6 25 "ThrownSacks$Ways" "many" "I", Cond.fieldLink RX6 18 "ThrownSacks$Ways" "places" "[I", Cond.methodLink RX6 39 Lib.Math.min.name, Cond.static Lib.Math.min.name, Cond.initialized "java/lang/Math", Cond.code Lib.Math.min.name Lib.Math.min.code 2 (some .int), Cond.methodLink RX6 29 yJ7_fill_53178, Cond.static yJ7_fill_53178]
def wsX7_withHanging_r3 : List Cond := [Cond.initialized RJ7, Cond.code yJ7_fill_53178 cJ7_fill_53178 4 none, Cond.methodLink RX6 35 yX6_askAllFound, Cond.instanceMethod yX6_askAllFound, Cond.selects RX6 yX6_askAllFound yX6_askAllFound, Cond.code yX6_askAllFound cX6_askAllFound 5 (some .boolean), Cond.fieldLink RX6 15 "ThrownSacks$Ways" "beyond" "[I", Cond.fieldLink RX6 49 "ThrownSacks$Standing" "found" "I", Cond.fieldLink RX6 54 "ThrownSacks$Standing" "foundTowns" "[I", Cond.fieldLink RX6 57 "ThrownSacks$Standing" "foundIn" "[I", Cond.methodLink RX6 45 yX6_hangFrom, Cond.static yX6_hangFrom, Cond.code yX6_hangFrom cX6_hangFrom 5 none, Cond.fieldLink RX6 9 "ThrownSacks$Ways" "towns" "[I", Cond.methodLink RX6 60 yX6_keep, Cond.instanceMethod yX6_keep, Cond.selects RX6 yX6_keep yX6_keep, Cond.code yX6_keep cX6_keep 3 none, Cond.methodLink RX6 64 yX6_canHang, Cond.instanceMethod yX6_canHang, Cond.selects RX6 yX6_canHang yX6_canHang, Cond.code yX6_canHang cX6_canHang 5 (some .boolean), Cond.methodLink RX7 261 yX7_where, Cond.instanceMethod yX7_where]
def wsX7_withHanging_r4 : List Cond := [Cond.selects RX7 yX7_where yX7_where, Cond.code yX7_where cX7_where 2 (some .int), Cond.fieldLink RX7 200 "ThrownSacks$Ways" "places" "[I"]
def wsX7_withHanging : List Cond := .code yX7_withHanging cX7_withHanging 6 (some .long) :: ((wsX7_withHanging_r1 ++ (wsX7_withHanging_r2 ++ (wsX7_withHanging_r3 ++ wsX7_withHanging_r4))) ++ wsX70 ++ wsX20 ++ wsX00 ++ wsX40 ++ wsX60)
def wsX7_digest_r1 : List Cond := [Cond.constantLong RX7 229 (827), Cond.fieldLink RX7 19 "ThrownSacks" "plan" "LThrownSacks$Plan;", Cond.fieldLink RX7 91 "ThrownSacks$Plan" "hooks" "I", Cond.fieldLink RX7 26 "ThrownSacks" "now" "LThrownSacks$Standing;", Cond.fieldLink RX7 128 "ThrownSacks$Standing" "belt" "LThrownSacks$Row;", Cond.fieldLink RX7 112 "ThrownSacks$Row" "size" "I", Cond.constantLong RX7 235 (31), Cond.fieldLink RX7 10 "ThrownSacks" "page" "LThrownSacks$Page;", Cond.fieldLink RX7 54 "ThrownSacks$Page" "size" "I", Cond.methodLink RX7 231 yX7_withHook, Cond.instanceMethod yX7_withHook, Cond.selects RX7 yX7_withHook yX7_withHook, Cond.initialized RX7, Cond.code yX7_withHook cX7_withHook 7 (some .long), Cond.methodLink RX7 249 yX7_hook, Cond.instanceMethod yX7_hook, Cond.selects RX7 yX7_hook yX7_hook, Cond.code yX7_hook cX7_hook 5 (some .int), Cond.fieldLink RX7 98 "ThrownSacks$Standing" "sacks" "[LThrownSacks$Row;", Cond.fieldLink RX7 102 "ThrownSacks$Standing" "towns" "[I", Cond.fieldLink RX7 106 "ThrownSacks$Plan" "yards" "[I", Cond.fieldLink RX7 109 "ThrownSacks$Plan" "room" "[I", Cond.methodLink RX7 94 yX7_isKnown, Cond.instanceMethod yX7_isKnown]
def wsX7_digest_r2 : List Cond := [Cond.selects RX7 yX7_isKnown yX7_isKnown, Cond.code yX7_isKnown cX7_isKnown 2 (some .boolean), Cond.methodLink RX7 115 yX3_notFor, Cond.instanceMethod yX3_notFor, Cond.selects RX3 yX3_notFor yX3_notFor, Cond.initialized RX3, Cond.code yX3_notFor cX3_notFor 4 (some .int), Cond.fieldLink RX3 22 "ThrownSacks$Row" "size" "I", Cond.fieldLink RX3 15 "ThrownSacks$Row" "towns" "[I", Cond.methodLink RX7 119 yX3_ofKind, Cond.instanceMethod yX3_ofKind, Cond.selects RX3 yX3_ofKind yX3_ofKind, Cond.code yX3_ofKind cX3_ofKind 4 (some .int), Cond.fieldLink RX3 9 "ThrownSacks$Row" "kinds" "[I", Cond.methodLink RX7 122 yX2_oftenOf, Cond.instanceMethod yX2_oftenOf, Cond.selects RX2 yX2_oftenOf yX2_oftenOf, Cond.initialized RX2, Cond.code yX2_oftenOf cX2_oftenOf 2 (some .int), Cond.fieldLink RX2 33 "ThrownSacks$Plan" "hooks" "I", Cond.fieldLink RX2 18 "ThrownSacks$Plan" "often" "[I", Cond.methodLink RX7 252 yX7_odds, Cond.instanceMethod yX7_odds, Cond.selects RX7 yX7_odds yX7_odds]
def wsX7_digest_r3 : List Cond := [Cond.code yX7_odds cX7_odds 6 (some .int), Cond.methodLink RX7 125 yX7_isKind, Cond.static yX7_isKind, Cond.code yX7_isKind cX7_isKind 1 (some .boolean), Cond.fieldLink RX7 268 "ThrownSacks" "GRIPS" "[I", Cond.methodLink RX7 173 yX7_carryTenths, Cond.static yX7_carryTenths, Cond.code yX7_carryTenths cX7_carryTenths 1 (some .int), Cond.methodLink RX7 162 yX7_carrySeconds, Cond.static yX7_carrySeconds, Cond.code yX7_carrySeconds cX7_carrySeconds 1 (some .int), Cond.methodLink RX7 155 yX7_nextTo, Cond.static yX7_nextTo, Cond.code yX7_nextTo cX7_nextTo 2 (some .int), Cond.methodLink RX7 148 yX7_isFull, Cond.instanceMethod yX7_isFull, Cond.selects RX7 yX7_isFull yX7_isFull, Cond.code yX7_isFull cX7_isFull 2 (some .boolean), Cond.methodLink RX7 176 yX7_costOf, Cond.static yX7_costOf, Cond.code yX7_costOf cX7_costOf 7 (some .int), Cond.methodLink RX7 264 yX7_tenthsOf, Cond.static yX7_tenthsOf, Cond.code yX7_tenthsOf cX7_tenthsOf 6 (some .int)]
def wsX7_digest_r4 : List Cond := [Cond.methodLink RX7 271 Lib.Math.min.name, Cond.static Lib.Math.min.name, Cond.initialized "java/lang/Math", Cond.code Lib.Math.min.name Lib.Math.min.code 2 (some .int), Cond.methodLink RX7 276 Lib.Math.max.name, Cond.static Lib.Math.max.name, Cond.code Lib.Math.max.name Lib.Math.max.code 2 (some .int), Cond.methodLink RX7 141 yX7_gripOf, Cond.static yX7_gripOf, Cond.code yX7_gripOf cX7_gripOf 1 (some .int), Cond.methodLink RX7 151 yX7_tenthsAt, Cond.instanceMethod yX7_tenthsAt, Cond.selects RX7 yX7_tenthsAt yX7_tenthsAt, Cond.code yX7_tenthsAt cX7_tenthsAt 4 (some .int), Cond.methodLink RX7 237 yX7_belt, Cond.instanceMethod yX7_belt, Cond.selects RX7 yX7_belt yX7_belt, Cond.code yX7_belt cX7_belt 3 (some .int), Cond.methodLink RX7 135 yX3_kindAt, Cond.instanceMethod yX3_kindAt, Cond.selects RX3 yX3_kindAt yX3_kindAt, Cond.code yX3_kindAt cX3_kindAt 2 (some .int), Cond.methodLink RX7 138 yX3_townAt, Cond.instanceMethod yX3_townAt]
def wsX7_digest_r5 : List Cond := [Cond.selects RX3 yX3_townAt yX3_townAt, Cond.code yX3_townAt cX3_townAt 2 (some .int), Cond.methodLink RX7 239 yX7_withHanging, Cond.instanceMethod yX7_withHanging, Cond.selects RX7 yX7_withHanging yX7_withHanging, Cond.code yX7_withHanging cX7_withHanging 6 (some .long), Cond.methodLink RX7 255 yX7_hanging, Cond.instanceMethod yX7_hanging, Cond.selects RX7 yX7_hanging yX7_hanging, Cond.code yX7_hanging cX7_hanging 3 (some .int), Cond.fieldLink RX7 36 "ThrownSacks" "best" "LThrownSacks$Best;", Cond.fieldLink RX7 180 "ThrownSacks$Best" "total" "I", Cond.fieldLink RX7 187 "ThrownSacks$Best" "towns" "[I", Cond.methodLink RX7 183 yX0_exchangesFrom, Cond.instanceMethod yX0_exchangesFrom, Cond.selects RX0 yX0_exchangesFrom yX0_exchangesFrom, Cond.initialized RX0, Cond.code yX0_exchangesFrom cX0_exchangesFrom 8 (some .int), Cond.fieldLink RX0 9 "ThrownSacks$Best" "towns" "[I", Cond.methodLink RX0 63 yX4_hookOf, Cond.instanceMethod yX4_hookOf, Cond.selects RX4 yX4_hookOf yX4_hookOf, Cond.initialized RX4, Cond.code yX4_hookOf cX4_hookOf 3 (some .int)]
def wsX7_digest_r6 : List Cond := [Cond.fieldLink RX4 9 "ThrownSacks$Standing" "towns" "[I", Cond.methodLink RX7 258 yX7_hung, Cond.instanceMethod yX7_hung, Cond.selects RX7 yX7_hung yX7_hung, Cond.code yX7_hung cX7_hung 1 (some .int), Cond.fieldLink RX7 43 "ThrownSacks" "ways" "LThrownSacks$Ways;", Cond.fieldLink RX7 197 "ThrownSacks$Ways" "many" "I", Cond.methodLink RX7 194 yX6_seek, Cond.instanceMethod yX6_seek, Cond.selects RX6 yX6_seek yX6_seek, Cond.initialized RX6, Cond.code yX6_seek cX6_seek 3 none, Cond.fieldLink RX6 21 "ThrownSacks$Ways" "counted" "Z", Cond.fieldLink RX6 25 "ThrownSacks$Ways" "many" "I", Cond.fieldLink RX6 18 "ThrownSacks$Ways" "places" "[I", Cond.methodLink RX6 39 Lib.Math.min.name, Cond.methodLink RX6 29 yJ7_fill_53178, Cond.static yJ7_fill_53178, Cond.initialized RJ7, Cond.code yJ7_fill_53178 cJ7_fill_53178 4 none, Cond.methodLink RX6 35 yX6_askAllFound, Cond.instanceMethod yX6_askAllFound, Cond.selects RX6 yX6_askAllFound yX6_askAllFound, Cond.code yX6_askAllFound cX6_askAllFound 5 (some .boolean)]
def wsX7_digest_r7 : List Cond := [Cond.fieldLink RX6 15 "ThrownSacks$Ways" "beyond" "[I", Cond.fieldLink RX6 49 "ThrownSacks$Standing" "found" "I", Cond.fieldLink RX6 54 "ThrownSacks$Standing" "foundTowns" "[I", Cond.fieldLink RX6 57 "ThrownSacks$Standing" "foundIn" "[I", Cond.methodLink RX6 45 yX6_hangFrom, Cond.static yX6_hangFrom, Cond.code yX6_hangFrom cX6_hangFrom 5 none, Cond.fieldLink RX6 9 "ThrownSacks$Ways" "towns" "[I", Cond.methodLink RX6 60 yX6_keep, Cond.instanceMethod yX6_keep, Cond.selects RX6 yX6_keep yX6_keep, Cond.code yX6_keep cX6_keep 3 none, Cond.methodLink RX6 64 yX6_canHang, Cond.instanceMethod yX6_canHang, Cond.selects RX6 yX6_canHang yX6_canHang, Cond.code yX6_canHang cX6_canHang 5 (some .boolean), Cond.methodLink RX7 261 yX7_where, Cond.instanceMethod yX7_where, Cond.selects RX7 yX7_where yX7_where, Cond.code yX7_where cX7_where 2 (some .int), Cond.fieldLink RX7 200 "ThrownSacks$Ways" "places" "[I", Cond.methodLink RX7 243 yX1_codeAt, Cond.instanceMethod yX1_codeAt, Cond.selects RX1 yX1_codeAt yX1_codeAt]
def wsX7_digest_r8 : List Cond := [Cond.initialized RX1, Cond.code yX1_codeAt cX1_codeAt 2 (some .int), Cond.fieldLink RX1 15 "ThrownSacks$Page" "size" "I", Cond.fieldLink RX1 9 "ThrownSacks$Page" "codes" "[I", Cond.methodLink RX7 246 yX7_count, Cond.instanceMethod yX7_count, Cond.selects RX7 yX7_count yX7_count, Cond.code yX7_count cX7_count 2 (some .int), Cond.fieldLink RX7 159 "ThrownSacks$Standing" "seconds" "I", Cond.fieldLink RX7 226 "ThrownSacks$Standing" "harmed" "I", Cond.fieldLink RX7 188 "ThrownSacks$Standing" "found" "I", Cond.fieldLink RX7 88 "ThrownSacks" "floorsRead" "I", Cond.methodLink RX7 220 yX4_inSacks, Cond.instanceMethod yX4_inSacks, Cond.selects RX4 yX4_inSacks yX4_inSacks, Cond.code yX4_inSacks cX4_inSacks 4 (some .int), Cond.fieldLink RX4 17 "ThrownSacks$Standing" "sacks" "[LThrownSacks$Row;", Cond.fieldLink RX4 32 "ThrownSacks$Row" "size" "I", Cond.methodLink RX7 223 yX4_wrongInSacks, Cond.instanceMethod yX4_wrongInSacks, Cond.selects RX4 yX4_wrongInSacks yX4_wrongInSacks, Cond.code yX4_wrongInSacks cX4_wrongInSacks 4 (some .int), Cond.methodLink RX4 67 yX3_notFor]
def wsX7_digest : List Cond := .code yX7_digest cX7_digest 5 (some .long) :: ((wsX7_digest_r1 ++ (wsX7_digest_r2 ++ (wsX7_digest_r3 ++ (wsX7_digest_r4 ++ (wsX7_digest_r5 ++ (wsX7_digest_r6 ++ (wsX7_digest_r7 ++ wsX7_digest_r8))))))) ++ wsX70 ++ wsX20 ++ wsX40 ++ wsX30 ++ wsX10 ++ wsX00 ++ wsX60)
def wsX8_init_r1 : List Cond := [Cond.methodLink RX8 1 objectInit, Cond.instanceMethod objectInit, Cond.code objectInit ⟨#[0xb1]⟩ 1 none, Cond.arrayClass .int, Cond.fieldLink RX8 7 "ThrownSacksModel" "yardsOf" "[I", Cond.fieldLink RX8 13 "ThrownSacksModel" "roomOf" "[I", Cond.fieldLink RX8 16 "ThrownSacksModel" "oftenOf" "[I", Cond.fieldLink RX8 19 "ThrownSacksModel" "hangsOn" "[I", Cond.fieldLink RX8 22 "ThrownSacksModel" "manyIn" "[I", Cond.fieldLink RX8 25 "ThrownSacksModel" "wrongIn" "[I", Cond.fieldLink RX8 28 "ThrownSacksModel" "glassIn" "[I", Cond.fieldLink RX8 31 "ThrownSacksModel" "wholeIn" "[I", Cond.fieldLink RX8 34 "ThrownSacksModel" "beltKind" "[I", Cond.fieldLink RX8 37 "ThrownSacksModel" "beltTown" "[I", Cond.fieldLink RX8 40 "ThrownSacksModel" "foundTown" "[I", Cond.fieldLink RX8 43 "ThrownSacksModel" "foundIn" "[I", Cond.arrayClass .byte, Cond.fieldLink RX8 46 "ThrownSacksModel" "page" "[B", Cond.fieldLink RX8 50 "ThrownSacksModel" "keptHangs" "[I", Cond.fieldLink RX8 53 "ThrownSacksModel" "keptMany" "[I", Cond.fieldLink RX8 56 "ThrownSacksModel" "keptWrong" "[I", Cond.fieldLink RX8 59 "ThrownSacksModel" "keptGlass" "[I", Cond.fieldLink RX8 62 "ThrownSacksModel" "keptWhole" "[I", Cond.fieldLink RX8 65 "ThrownSacksModel" "keptKind" "[I"]
def wsX8_init_r2 : List Cond := [Cond.fieldLink RX8 68 "ThrownSacksModel" "keptTown" "[I", Cond.fieldLink RX8 71 "ThrownSacksModel" "keptFoundTown" "[I", Cond.fieldLink RX8 74 "ThrownSacksModel" "keptFoundIn" "[I"]
def wsX8_init : List Cond := .code yX8_init cX8_init 1 none :: ((wsX8_init_r1 ++ wsX8_init_r2) ++ wsX80)
def wsX8_within : List Cond := .code yX8_within cX8_within 3 (some .boolean) :: ([])
def wsX8_letter : List Cond := .code yX8_letter cX8_letter 2 (some .int) :: ([.fieldLink RX8 81 "ThrownSacksModel" "pageLength" "I", .fieldLink RX8 46 "ThrownSacksModel" "page" "[B", .methodLink RX8 77 yX8_within, .static yX8_within, .initialized RX8, .code yX8_within cX8_within 3 (some .boolean)] ++ wsX80)
def wsX8_blank : List Cond := .code yX8_blank cX8_blank 2 (some .int) :: ([.fieldLink RX8 81 "ThrownSacksModel" "pageLength" "I"] ++ wsX80)
def wsX8_isFigure : List Cond := .code yX8_isFigure cX8_isFigure 4 (some .boolean) :: ([.fieldLink RX8 81 "ThrownSacksModel" "pageLength" "I", .fieldLink RX8 46 "ThrownSacksModel" "page" "[B", .methodLink RX8 77 yX8_within, .static yX8_within, .initialized RX8, .code yX8_within cX8_within 3 (some .boolean)] ++ wsX80)
def wsX8_isSign : List Cond := .code yX8_isSign cX8_isSign 3 (some .boolean) :: ([.fieldLink RX8 81 "ThrownSacksModel" "pageLength" "I", .fieldLink RX8 46 "ThrownSacksModel" "page" "[B"] ++ wsX80)
def wsX8_readOften : List Cond := .code yX8_readOften cX8_readOften 3 none :: ([.fieldLink RX8 85 "ThrownSacksModel" "newMany" "I", .fieldLink RX8 92 "ThrownSacksModel" "faultAt" "I", .fieldLink RX8 81 "ThrownSacksModel" "pageLength" "I", .fieldLink RX8 88 "ThrownSacksModel" "isWhole" "Z", .methodLink RX8 95 yX8_isFigure, .instanceMethod yX8_isFigure, .selects RX8 yX8_isFigure yX8_isFigure, .initialized RX8, .code yX8_isFigure cX8_isFigure 4 (some .boolean), .fieldLink RX8 46 "ThrownSacksModel" "page" "[B", .methodLink RX8 77 yX8_within, .static yX8_within, .code yX8_within cX8_within 3 (some .boolean)] ++ wsX80)
def wsX8_read : List Cond := .code yX8_read cX8_read 3 none :: ([.fieldLink RX8 85 "ThrownSacksModel" "newMany" "I", .fieldLink RX8 88 "ThrownSacksModel" "isWhole" "Z", .fieldLink RX8 92 "ThrownSacksModel" "faultAt" "I", .methodLink RX8 95 yX8_isFigure, .instanceMethod yX8_isFigure, .selects RX8 yX8_isFigure yX8_isFigure, .initialized RX8, .code yX8_isFigure cX8_isFigure 4 (some .boolean), .fieldLink RX8 81 "ThrownSacksModel" "pageLength" "I", .fieldLink RX8 46 "ThrownSacksModel" "page" "[B", .methodLink RX8 77 yX8_within, .static yX8_within, .code yX8_within cX8_within 3 (some .boolean), .methodLink RX8 98 yX8_isSign, .instanceMethod yX8_isSign, .selects RX8 yX8_isSign yX8_isSign, .code yX8_isSign cX8_isSign 3 (some .boolean), .methodLink RX8 102 yX8_readOften, .instanceMethod yX8_readOften, .selects RX8 yX8_readOften yX8_readOften, .code yX8_readOften cX8_readOften 3 none] ++ wsX80)
def wsX8_fault_r1 : List Cond := [Cond.fieldLink RX8 92 "ThrownSacksModel" "faultAt" "I", Cond.methodLink RX8 106 yX8_read, Cond.instanceMethod yX8_read, Cond.selects RX8 yX8_read yX8_read, Cond.initialized RX8, Cond.code yX8_read cX8_read 3 none, Cond.fieldLink RX8 85 "ThrownSacksModel" "newMany" "I", Cond.fieldLink RX8 88 "ThrownSacksModel" "isWhole" "Z", Cond.methodLink RX8 95 yX8_isFigure, Cond.instanceMethod yX8_isFigure, Cond.selects RX8 yX8_isFigure yX8_isFigure, Cond.code yX8_isFigure cX8_isFigure 4 (some .boolean), Cond.fieldLink RX8 81 "ThrownSacksModel" "pageLength" "I", Cond.fieldLink RX8 46 "ThrownSacksModel" "page" "[B", Cond.methodLink RX8 77 yX8_within, Cond.static yX8_within, Cond.code yX8_within cX8_within 3 (some .boolean), Cond.methodLink RX8 98 yX8_isSign, Cond.instanceMethod yX8_isSign, Cond.selects RX8 yX8_isSign yX8_isSign, Cond.code yX8_isSign cX8_isSign 3 (some .boolean), Cond.methodLink RX8 102 yX8_readOften, Cond.instanceMethod yX8_readOften, Cond.selects RX8 yX8_readOften yX8_readOften]
def wsX8_fault_r2 : List Cond := [Cond.code yX8_readOften cX8_readOften 3 none]
def wsX8_fault : List Cond := .code yX8_fault cX8_fault 1 (some .int) :: ((wsX8_fault_r1 ++ wsX8_fault_r2) ++ wsX80)
def wsX8_empty : List Cond := .code yX8_empty cX8_empty 2 none :: ([.fieldLink RX8 22 "ThrownSacksModel" "manyIn" "[I", .fieldLink RX8 25 "ThrownSacksModel" "wrongIn" "[I", .fieldLink RX8 28 "ThrownSacksModel" "glassIn" "[I", .fieldLink RX8 31 "ThrownSacksModel" "wholeIn" "[I"] ++ wsX80)
def wsX8_floor_r1 : List Cond := [Cond.fieldLink RX8 88 "ThrownSacksModel" "isWhole" "Z", Cond.fieldLink RX8 85 "ThrownSacksModel" "newMany" "I", Cond.fieldLink RX8 109 "ThrownSacksModel" "hooks" "I", Cond.fieldLink RX8 7 "ThrownSacksModel" "yardsOf" "[I", Cond.fieldLink RX8 46 "ThrownSacksModel" "page" "[B", Cond.fieldLink RX8 13 "ThrownSacksModel" "roomOf" "[I", Cond.fieldLink RX8 16 "ThrownSacksModel" "oftenOf" "[I", Cond.fieldLink RX8 19 "ThrownSacksModel" "hangsOn" "[I", Cond.fieldLink RX8 115 "ThrownSacksModel" "floors" "I", Cond.fieldLink RX8 118 "ThrownSacksModel" "onBelt" "I", Cond.fieldLink RX8 121 "ThrownSacksModel" "seconds" "I", Cond.fieldLink RX8 124 "ThrownSacksModel" "harmed" "I", Cond.fieldLink RX8 127 "ThrownSacksModel" "found" "I", Cond.fieldLink RX8 81 "ThrownSacksModel" "pageLength" "I", Cond.methodLink RX8 106 yX8_read, Cond.instanceMethod yX8_read, Cond.selects RX8 yX8_read yX8_read, Cond.initialized RX8, Cond.code yX8_read cX8_read 3 none, Cond.fieldLink RX8 92 "ThrownSacksModel" "faultAt" "I", Cond.methodLink RX8 95 yX8_isFigure, Cond.instanceMethod yX8_isFigure, Cond.selects RX8 yX8_isFigure yX8_isFigure, Cond.code yX8_isFigure cX8_isFigure 4 (some .boolean)]
def wsX8_floor_r2 : List Cond := [Cond.methodLink RX8 77 yX8_within, Cond.static yX8_within, Cond.code yX8_within cX8_within 3 (some .boolean), Cond.methodLink RX8 98 yX8_isSign, Cond.instanceMethod yX8_isSign, Cond.selects RX8 yX8_isSign yX8_isSign, Cond.code yX8_isSign cX8_isSign 3 (some .boolean), Cond.methodLink RX8 102 yX8_readOften, Cond.instanceMethod yX8_readOften, Cond.selects RX8 yX8_readOften yX8_readOften, Cond.code yX8_readOften cX8_readOften 3 none, Cond.methodLink RX8 112 yX8_empty, Cond.instanceMethod yX8_empty, Cond.selects RX8 yX8_empty yX8_empty, Cond.code yX8_empty cX8_empty 2 none, Cond.fieldLink RX8 22 "ThrownSacksModel" "manyIn" "[I", Cond.fieldLink RX8 25 "ThrownSacksModel" "wrongIn" "[I", Cond.fieldLink RX8 28 "ThrownSacksModel" "glassIn" "[I", Cond.fieldLink RX8 31 "ThrownSacksModel" "wholeIn" "[I"]
def wsX8_floor : List Cond := .code yX8_floor cX8_floor 2 (some .int) :: ((wsX8_floor_r1 ++ wsX8_floor_r2) ++ wsX80)
def wsX8_isHook : List Cond := .code yX8_isHook cX8_isHook 2 (some .boolean) :: ([.fieldLink RX8 109 "ThrownSacksModel" "hooks" "I", .methodLink RX8 77 yX8_within, .static yX8_within, .initialized RX8, .code yX8_within cX8_within 3 (some .boolean)] ++ wsX80)
def wsX8_hookNow : List Cond := .code yX8_hookNow cX8_hookNow 4 (some .int) :: ([.fieldLink RX8 19 "ThrownSacksModel" "hangsOn" "[I", .fieldLink RX8 7 "ThrownSacksModel" "yardsOf" "[I", .fieldLink RX8 13 "ThrownSacksModel" "roomOf" "[I", .fieldLink RX8 22 "ThrownSacksModel" "manyIn" "[I", .fieldLink RX8 25 "ThrownSacksModel" "wrongIn" "[I", .fieldLink RX8 28 "ThrownSacksModel" "glassIn" "[I", .fieldLink RX8 16 "ThrownSacksModel" "oftenOf" "[I"] ++ wsX80)
def wsX8_hook : List Cond := .code yX8_hook cX8_hook 3 (some .int) :: ([.methodLink RX8 130 yX8_isHook, .instanceMethod yX8_isHook, .selects RX8 yX8_isHook yX8_isHook, .initialized RX8, .code yX8_isHook cX8_isHook 2 (some .boolean), .fieldLink RX8 109 "ThrownSacksModel" "hooks" "I", .methodLink RX8 77 yX8_within, .static yX8_within, .code yX8_within cX8_within 3 (some .boolean), .methodLink RX8 134 yX8_hookNow, .instanceMethod yX8_hookNow, .selects RX8 yX8_hookNow yX8_hookNow, .code yX8_hookNow cX8_hookNow 4 (some .int), .fieldLink RX8 19 "ThrownSacksModel" "hangsOn" "[I", .fieldLink RX8 7 "ThrownSacksModel" "yardsOf" "[I", .fieldLink RX8 13 "ThrownSacksModel" "roomOf" "[I", .fieldLink RX8 22 "ThrownSacksModel" "manyIn" "[I", .fieldLink RX8 25 "ThrownSacksModel" "wrongIn" "[I", .fieldLink RX8 28 "ThrownSacksModel" "glassIn" "[I", .fieldLink RX8 16 "ThrownSacksModel" "oftenOf" "[I"] ++ wsX80)
def wsX8_gripOf : List Cond := .code yX8_gripOf cX8_gripOf 1 (some .int) :: ([])
def wsX8_parcel : List Cond := .code yX8_parcel cX8_parcel 3 (some .int) :: ([.fieldLink RX8 118 "ThrownSacksModel" "onBelt" "I", .fieldLink RX8 34 "ThrownSacksModel" "beltKind" "[I", .fieldLink RX8 37 "ThrownSacksModel" "beltTown" "[I", .methodLink RX8 77 yX8_within, .static yX8_within, .initialized RX8, .code yX8_within cX8_within 3 (some .boolean), .methodLink RX8 130 yX8_isHook, .instanceMethod yX8_isHook, .selects RX8 yX8_isHook yX8_isHook, .code yX8_isHook cX8_isHook 2 (some .boolean), .fieldLink RX8 109 "ThrownSacksModel" "hooks" "I"] ++ wsX80)
def wsX8_isPlace : List Cond := .code yX8_isPlace cX8_isPlace 2 (some .boolean) :: ([.fieldLink RX8 118 "ThrownSacksModel" "onBelt" "I", .methodLink RX8 77 yX8_within, .static yX8_within, .initialized RX8, .code yX8_within cX8_within 3 (some .boolean)] ++ wsX80)
def wsX8_beltNow : List Cond := .code yX8_beltNow cX8_beltNow 3 (some .int) :: ([.fieldLink RX8 34 "ThrownSacksModel" "beltKind" "[I", .fieldLink RX8 37 "ThrownSacksModel" "beltTown" "[I", .methodLink RX8 138 yX8_gripOf, .static yX8_gripOf, .initialized RX8, .code yX8_gripOf cX8_gripOf 1 (some .int)] ++ wsX80)
def wsX8_belt : List Cond := .code yX8_belt cX8_belt 3 (some .int) :: ([.methodLink RX8 142 yX8_isPlace, .instanceMethod yX8_isPlace, .selects RX8 yX8_isPlace yX8_isPlace, .initialized RX8, .code yX8_isPlace cX8_isPlace 2 (some .boolean), .fieldLink RX8 118 "ThrownSacksModel" "onBelt" "I", .methodLink RX8 77 yX8_within, .static yX8_within, .code yX8_within cX8_within 3 (some .boolean), .methodLink RX8 145 yX8_beltNow, .instanceMethod yX8_beltNow, .selects RX8 yX8_beltNow yX8_beltNow, .code yX8_beltNow cX8_beltNow 3 (some .int), .fieldLink RX8 34 "ThrownSacksModel" "beltKind" "[I", .fieldLink RX8 37 "ThrownSacksModel" "beltTown" "[I", .methodLink RX8 138 yX8_gripOf, .static yX8_gripOf, .code yX8_gripOf cX8_gripOf 1 (some .int)] ++ wsX80)
def wsX8_as : List Cond := .code yX8_as cX8_as 4 (some .int) :: ([.fieldLink RX8 34 "ThrownSacksModel" "beltKind" "[I", .fieldLink RX8 37 "ThrownSacksModel" "beltTown" "[I", .methodLink RX8 142 yX8_isPlace, .instanceMethod yX8_isPlace, .selects RX8 yX8_isPlace yX8_isPlace, .initialized RX8, .code yX8_isPlace cX8_isPlace 2 (some .boolean), .fieldLink RX8 118 "ThrownSacksModel" "onBelt" "I", .methodLink RX8 77 yX8_within, .static yX8_within, .code yX8_within cX8_within 3 (some .boolean)] ++ wsX80)
def wsX8_nextOf : List Cond := .code yX8_nextOf cX8_nextOf 2 (some .int) :: ([.fieldLink RX8 109 "ThrownSacksModel" "hooks" "I"] ++ wsX80)
def wsX8_tenthsIn : List Cond := .code yX8_tenthsIn cX8_tenthsIn 4 (some .int) :: ([.fieldLink RX8 7 "ThrownSacksModel" "yardsOf" "[I", .methodLink RX8 138 yX8_gripOf, .static yX8_gripOf, .initialized RX8, .code yX8_gripOf cX8_gripOf 1 (some .int)] ++ wsX80)
def wsX8_tenthsNext : List Cond := .code yX8_tenthsNext cX8_tenthsNext 3 (some .int) :: ([.methodLink RX8 148 yX8_tenthsIn, .instanceMethod yX8_tenthsIn, .selects RX8 yX8_tenthsIn yX8_tenthsIn, .initialized RX8, .code yX8_tenthsIn cX8_tenthsIn 4 (some .int), .fieldLink RX8 7 "ThrownSacksModel" "yardsOf" "[I", .methodLink RX8 138 yX8_gripOf, .static yX8_gripOf, .code yX8_gripOf cX8_gripOf 1 (some .int)] ++ wsX80)
def wsX8_isFull : List Cond := .code yX8_isFull cX8_isFull 2 (some .boolean) :: ([.fieldLink RX8 22 "ThrownSacksModel" "manyIn" "[I", .fieldLink RX8 19 "ThrownSacksModel" "hangsOn" "[I", .fieldLink RX8 13 "ThrownSacksModel" "roomOf" "[I"] ++ wsX80)
def wsX8_tenthsOf_r1 : List Cond := [Cond.methodLink RX8 148 yX8_tenthsIn, Cond.instanceMethod yX8_tenthsIn, Cond.selects RX8 yX8_tenthsIn yX8_tenthsIn, Cond.initialized RX8, Cond.code yX8_tenthsIn cX8_tenthsIn 4 (some .int), Cond.fieldLink RX8 7 "ThrownSacksModel" "yardsOf" "[I", Cond.methodLink RX8 138 yX8_gripOf, Cond.static yX8_gripOf, Cond.code yX8_gripOf cX8_gripOf 1 (some .int), Cond.methodLink RX8 151 yX8_nextOf, Cond.instanceMethod yX8_nextOf, Cond.selects RX8 yX8_nextOf yX8_nextOf, Cond.code yX8_nextOf cX8_nextOf 2 (some .int), Cond.fieldLink RX8 109 "ThrownSacksModel" "hooks" "I", Cond.methodLink RX8 154 yX8_isFull, Cond.instanceMethod yX8_isFull, Cond.selects RX8 yX8_isFull yX8_isFull, Cond.code yX8_isFull cX8_isFull 2 (some .boolean), Cond.fieldLink RX8 22 "ThrownSacksModel" "manyIn" "[I", Cond.fieldLink RX8 19 "ThrownSacksModel" "hangsOn" "[I", Cond.fieldLink RX8 13 "ThrownSacksModel" "roomOf" "[I", Cond.methodLink RX8 157 yX8_tenthsNext, Cond.instanceMethod yX8_tenthsNext, Cond.selects RX8 yX8_tenthsNext yX8_tenthsNext]
def wsX8_tenthsOf_r2 : List Cond := [Cond.code yX8_tenthsNext cX8_tenthsNext 3 (some .int)]
def wsX8_tenthsOf : List Cond := .code yX8_tenthsOf cX8_tenthsOf 6 (some .int) :: ((wsX8_tenthsOf_r1 ++ wsX8_tenthsOf_r2) ++ wsX80)
def wsX8_walk : List Cond := .code yX8_walk cX8_walk 2 (some .int) :: ([.fieldLink RX8 7 "ThrownSacksModel" "yardsOf" "[I"] ++ wsX80)
def wsX8_comes : List Cond := .code yX8_comes cX8_comes 6 none :: ([.fieldLink RX8 19 "ThrownSacksModel" "hangsOn" "[I", .fieldLink RX8 34 "ThrownSacksModel" "beltKind" "[I", .fieldLink RX8 22 "ThrownSacksModel" "manyIn" "[I", .fieldLink RX8 25 "ThrownSacksModel" "wrongIn" "[I", .fieldLink RX8 37 "ThrownSacksModel" "beltTown" "[I", .fieldLink RX8 124 "ThrownSacksModel" "harmed" "I", .fieldLink RX8 31 "ThrownSacksModel" "wholeIn" "[I", .fieldLink RX8 28 "ThrownSacksModel" "glassIn" "[I", .fieldLink RX8 118 "ThrownSacksModel" "onBelt" "I"] ++ wsX80)
def wsX8_toss_r1 : List Cond := [Cond.fieldLink RX8 118 "ThrownSacksModel" "onBelt" "I", Cond.fieldLink RX8 34 "ThrownSacksModel" "beltKind" "[I", Cond.fieldLink RX8 121 "ThrownSacksModel" "seconds" "I", Cond.methodLink RX8 130 yX8_isHook, Cond.instanceMethod yX8_isHook, Cond.selects RX8 yX8_isHook yX8_isHook, Cond.initialized RX8, Cond.code yX8_isHook cX8_isHook 2 (some .boolean), Cond.fieldLink RX8 109 "ThrownSacksModel" "hooks" "I", Cond.methodLink RX8 77 yX8_within, Cond.static yX8_within, Cond.code yX8_within cX8_within 3 (some .boolean), Cond.methodLink RX8 154 yX8_isFull, Cond.instanceMethod yX8_isFull, Cond.selects RX8 yX8_isFull yX8_isFull, Cond.code yX8_isFull cX8_isFull 2 (some .boolean), Cond.fieldLink RX8 22 "ThrownSacksModel" "manyIn" "[I", Cond.fieldLink RX8 19 "ThrownSacksModel" "hangsOn" "[I", Cond.fieldLink RX8 13 "ThrownSacksModel" "roomOf" "[I", Cond.methodLink RX8 160 yX8_tenthsOf, Cond.instanceMethod yX8_tenthsOf, Cond.selects RX8 yX8_tenthsOf yX8_tenthsOf, Cond.code yX8_tenthsOf cX8_tenthsOf 6 (some .int), Cond.methodLink RX8 148 yX8_tenthsIn]
def wsX8_toss_r2 : List Cond := [Cond.instanceMethod yX8_tenthsIn, Cond.selects RX8 yX8_tenthsIn yX8_tenthsIn, Cond.code yX8_tenthsIn cX8_tenthsIn 4 (some .int), Cond.fieldLink RX8 7 "ThrownSacksModel" "yardsOf" "[I", Cond.methodLink RX8 138 yX8_gripOf, Cond.static yX8_gripOf, Cond.code yX8_gripOf cX8_gripOf 1 (some .int), Cond.methodLink RX8 151 yX8_nextOf, Cond.instanceMethod yX8_nextOf, Cond.selects RX8 yX8_nextOf yX8_nextOf, Cond.code yX8_nextOf cX8_nextOf 2 (some .int), Cond.methodLink RX8 157 yX8_tenthsNext, Cond.instanceMethod yX8_tenthsNext, Cond.selects RX8 yX8_tenthsNext yX8_tenthsNext, Cond.code yX8_tenthsNext cX8_tenthsNext 3 (some .int), Cond.methodLink RX8 164 yX8_walk, Cond.instanceMethod yX8_walk, Cond.selects RX8 yX8_walk yX8_walk, Cond.code yX8_walk cX8_walk 2 (some .int), Cond.methodLink RX8 167 yX8_comes, Cond.instanceMethod yX8_comes, Cond.selects RX8 yX8_comes yX8_comes, Cond.code yX8_comes cX8_comes 6 none, Cond.fieldLink RX8 25 "ThrownSacksModel" "wrongIn" "[I"]
def wsX8_toss_r3 : List Cond := [Cond.fieldLink RX8 37 "ThrownSacksModel" "beltTown" "[I", Cond.fieldLink RX8 124 "ThrownSacksModel" "harmed" "I", Cond.fieldLink RX8 31 "ThrownSacksModel" "wholeIn" "[I", Cond.fieldLink RX8 28 "ThrownSacksModel" "glassIn" "[I"]
def wsX8_toss : List Cond := .code yX8_toss cX8_toss 4 (some .int) :: ((wsX8_toss_r1 ++ (wsX8_toss_r2 ++ wsX8_toss_r3)) ++ wsX80)
def wsX8_carry_r1 : List Cond := [Cond.fieldLink RX8 118 "ThrownSacksModel" "onBelt" "I", Cond.fieldLink RX8 121 "ThrownSacksModel" "seconds" "I", Cond.methodLink RX8 130 yX8_isHook, Cond.instanceMethod yX8_isHook, Cond.selects RX8 yX8_isHook yX8_isHook, Cond.initialized RX8, Cond.code yX8_isHook cX8_isHook 2 (some .boolean), Cond.fieldLink RX8 109 "ThrownSacksModel" "hooks" "I", Cond.methodLink RX8 77 yX8_within, Cond.static yX8_within, Cond.code yX8_within cX8_within 3 (some .boolean), Cond.methodLink RX8 154 yX8_isFull, Cond.instanceMethod yX8_isFull, Cond.selects RX8 yX8_isFull yX8_isFull, Cond.code yX8_isFull cX8_isFull 2 (some .boolean), Cond.fieldLink RX8 22 "ThrownSacksModel" "manyIn" "[I", Cond.fieldLink RX8 19 "ThrownSacksModel" "hangsOn" "[I", Cond.fieldLink RX8 13 "ThrownSacksModel" "roomOf" "[I", Cond.methodLink RX8 164 yX8_walk, Cond.instanceMethod yX8_walk, Cond.selects RX8 yX8_walk yX8_walk, Cond.code yX8_walk cX8_walk 2 (some .int), Cond.fieldLink RX8 7 "ThrownSacksModel" "yardsOf" "[I", Cond.methodLink RX8 167 yX8_comes]
def wsX8_carry_r2 : List Cond := [Cond.instanceMethod yX8_comes, Cond.selects RX8 yX8_comes yX8_comes, Cond.code yX8_comes cX8_comes 6 none, Cond.fieldLink RX8 34 "ThrownSacksModel" "beltKind" "[I", Cond.fieldLink RX8 25 "ThrownSacksModel" "wrongIn" "[I", Cond.fieldLink RX8 37 "ThrownSacksModel" "beltTown" "[I", Cond.fieldLink RX8 124 "ThrownSacksModel" "harmed" "I", Cond.fieldLink RX8 31 "ThrownSacksModel" "wholeIn" "[I", Cond.fieldLink RX8 28 "ThrownSacksModel" "glassIn" "[I"]
def wsX8_carry : List Cond := .code yX8_carry cX8_carry 2 (some .int) :: ((wsX8_carry_r1 ++ wsX8_carry_r2) ++ wsX80)
def wsX8_change : List Cond := .code yX8_change cX8_change 3 (some .int) :: ([.fieldLink RX8 22 "ThrownSacksModel" "manyIn" "[I", .fieldLink RX8 19 "ThrownSacksModel" "hangsOn" "[I", .fieldLink RX8 121 "ThrownSacksModel" "seconds" "I", .methodLink RX8 130 yX8_isHook, .instanceMethod yX8_isHook, .selects RX8 yX8_isHook yX8_isHook, .initialized RX8, .code yX8_isHook cX8_isHook 2 (some .boolean), .fieldLink RX8 109 "ThrownSacksModel" "hooks" "I", .methodLink RX8 77 yX8_within, .static yX8_within, .code yX8_within cX8_within 3 (some .boolean), .methodLink RX8 112 yX8_empty, .instanceMethod yX8_empty, .selects RX8 yX8_empty yX8_empty, .code yX8_empty cX8_empty 2 none, .fieldLink RX8 25 "ThrownSacksModel" "wrongIn" "[I", .fieldLink RX8 28 "ThrownSacksModel" "glassIn" "[I", .fieldLink RX8 31 "ThrownSacksModel" "wholeIn" "[I"] ++ wsX80)
def wsX8_exchange : List Cond := .code yX8_exchange cX8_exchange 5 (some .int) :: ([.fieldLink RX8 19 "ThrownSacksModel" "hangsOn" "[I", .fieldLink RX8 22 "ThrownSacksModel" "manyIn" "[I", .fieldLink RX8 13 "ThrownSacksModel" "roomOf" "[I", .fieldLink RX8 121 "ThrownSacksModel" "seconds" "I", .methodLink RX8 130 yX8_isHook, .instanceMethod yX8_isHook, .selects RX8 yX8_isHook yX8_isHook, .initialized RX8, .code yX8_isHook cX8_isHook 2 (some .boolean), .fieldLink RX8 109 "ThrownSacksModel" "hooks" "I", .methodLink RX8 77 yX8_within, .static yX8_within, .code yX8_within cX8_within 3 (some .boolean)] ++ wsX80)
def wsX8_costBy : List Cond := .code yX8_costBy cX8_costBy 6 (some .int) :: ([.methodLink RX8 164 yX8_walk, .instanceMethod yX8_walk, .selects RX8 yX8_walk yX8_walk, .initialized RX8, .code yX8_walk cX8_walk 2 (some .int), .fieldLink RX8 7 "ThrownSacksModel" "yardsOf" "[I"] ++ wsX80)
def wsX8_costNow_r1 : List Cond := [Cond.methodLink RX8 160 yX8_tenthsOf, Cond.instanceMethod yX8_tenthsOf, Cond.selects RX8 yX8_tenthsOf yX8_tenthsOf, Cond.initialized RX8, Cond.code yX8_tenthsOf cX8_tenthsOf 6 (some .int), Cond.methodLink RX8 148 yX8_tenthsIn, Cond.instanceMethod yX8_tenthsIn, Cond.selects RX8 yX8_tenthsIn yX8_tenthsIn, Cond.code yX8_tenthsIn cX8_tenthsIn 4 (some .int), Cond.fieldLink RX8 7 "ThrownSacksModel" "yardsOf" "[I", Cond.methodLink RX8 138 yX8_gripOf, Cond.static yX8_gripOf, Cond.code yX8_gripOf cX8_gripOf 1 (some .int), Cond.methodLink RX8 151 yX8_nextOf, Cond.instanceMethod yX8_nextOf, Cond.selects RX8 yX8_nextOf yX8_nextOf, Cond.code yX8_nextOf cX8_nextOf 2 (some .int), Cond.fieldLink RX8 109 "ThrownSacksModel" "hooks" "I", Cond.methodLink RX8 154 yX8_isFull, Cond.instanceMethod yX8_isFull, Cond.selects RX8 yX8_isFull yX8_isFull, Cond.code yX8_isFull cX8_isFull 2 (some .boolean), Cond.fieldLink RX8 22 "ThrownSacksModel" "manyIn" "[I", Cond.fieldLink RX8 19 "ThrownSacksModel" "hangsOn" "[I"]
def wsX8_costNow_r2 : List Cond := [Cond.fieldLink RX8 13 "ThrownSacksModel" "roomOf" "[I", Cond.methodLink RX8 157 yX8_tenthsNext, Cond.instanceMethod yX8_tenthsNext, Cond.selects RX8 yX8_tenthsNext yX8_tenthsNext, Cond.code yX8_tenthsNext cX8_tenthsNext 3 (some .int), Cond.methodLink RX8 171 yX8_costBy, Cond.instanceMethod yX8_costBy, Cond.selects RX8 yX8_costBy yX8_costBy, Cond.code yX8_costBy cX8_costBy 6 (some .int), Cond.methodLink RX8 164 yX8_walk, Cond.instanceMethod yX8_walk, Cond.selects RX8 yX8_walk yX8_walk, Cond.code yX8_walk cX8_walk 2 (some .int)]
def wsX8_costNow : List Cond := .code yX8_costNow cX8_costNow 3 (some .int) :: ((wsX8_costNow_r1 ++ wsX8_costNow_r2) ++ wsX80)
def wsX8_oddsNow_r1 : List Cond := [Cond.methodLink RX8 160 yX8_tenthsOf, Cond.instanceMethod yX8_tenthsOf, Cond.selects RX8 yX8_tenthsOf yX8_tenthsOf, Cond.initialized RX8, Cond.code yX8_tenthsOf cX8_tenthsOf 6 (some .int), Cond.methodLink RX8 148 yX8_tenthsIn, Cond.instanceMethod yX8_tenthsIn, Cond.selects RX8 yX8_tenthsIn yX8_tenthsIn, Cond.code yX8_tenthsIn cX8_tenthsIn 4 (some .int), Cond.fieldLink RX8 7 "ThrownSacksModel" "yardsOf" "[I", Cond.methodLink RX8 138 yX8_gripOf, Cond.static yX8_gripOf, Cond.code yX8_gripOf cX8_gripOf 1 (some .int), Cond.methodLink RX8 151 yX8_nextOf, Cond.instanceMethod yX8_nextOf, Cond.selects RX8 yX8_nextOf yX8_nextOf, Cond.code yX8_nextOf cX8_nextOf 2 (some .int), Cond.fieldLink RX8 109 "ThrownSacksModel" "hooks" "I", Cond.methodLink RX8 154 yX8_isFull, Cond.instanceMethod yX8_isFull, Cond.selects RX8 yX8_isFull yX8_isFull, Cond.code yX8_isFull cX8_isFull 2 (some .boolean), Cond.fieldLink RX8 22 "ThrownSacksModel" "manyIn" "[I", Cond.fieldLink RX8 19 "ThrownSacksModel" "hangsOn" "[I"]
def wsX8_oddsNow_r2 : List Cond := [Cond.fieldLink RX8 13 "ThrownSacksModel" "roomOf" "[I", Cond.methodLink RX8 157 yX8_tenthsNext, Cond.instanceMethod yX8_tenthsNext, Cond.selects RX8 yX8_tenthsNext yX8_tenthsNext, Cond.code yX8_tenthsNext cX8_tenthsNext 3 (some .int), Cond.methodLink RX8 175 yX8_costNow, Cond.instanceMethod yX8_costNow, Cond.selects RX8 yX8_costNow yX8_costNow, Cond.code yX8_costNow cX8_costNow 3 (some .int), Cond.methodLink RX8 171 yX8_costBy, Cond.instanceMethod yX8_costBy, Cond.selects RX8 yX8_costBy yX8_costBy, Cond.code yX8_costBy cX8_costBy 6 (some .int), Cond.methodLink RX8 164 yX8_walk, Cond.instanceMethod yX8_walk, Cond.selects RX8 yX8_walk yX8_walk, Cond.code yX8_walk cX8_walk 2 (some .int)]
def wsX8_oddsNow : List Cond := .code yX8_oddsNow cX8_oddsNow 4 (some .int) :: ((wsX8_oddsNow_r1 ++ wsX8_oddsNow_r2) ++ wsX80)
def wsX8_odds_r1 : List Cond := [Cond.methodLink RX8 77 yX8_within, Cond.static yX8_within, Cond.initialized RX8, Cond.code yX8_within cX8_within 3 (some .boolean), Cond.methodLink RX8 130 yX8_isHook, Cond.instanceMethod yX8_isHook, Cond.selects RX8 yX8_isHook yX8_isHook, Cond.code yX8_isHook cX8_isHook 2 (some .boolean), Cond.fieldLink RX8 109 "ThrownSacksModel" "hooks" "I", Cond.methodLink RX8 178 yX8_oddsNow, Cond.instanceMethod yX8_oddsNow, Cond.selects RX8 yX8_oddsNow yX8_oddsNow, Cond.code yX8_oddsNow cX8_oddsNow 4 (some .int), Cond.methodLink RX8 160 yX8_tenthsOf, Cond.instanceMethod yX8_tenthsOf, Cond.selects RX8 yX8_tenthsOf yX8_tenthsOf, Cond.code yX8_tenthsOf cX8_tenthsOf 6 (some .int), Cond.methodLink RX8 148 yX8_tenthsIn, Cond.instanceMethod yX8_tenthsIn, Cond.selects RX8 yX8_tenthsIn yX8_tenthsIn, Cond.code yX8_tenthsIn cX8_tenthsIn 4 (some .int), Cond.fieldLink RX8 7 "ThrownSacksModel" "yardsOf" "[I", Cond.methodLink RX8 138 yX8_gripOf, Cond.static yX8_gripOf]
def wsX8_odds_r2 : List Cond := [Cond.code yX8_gripOf cX8_gripOf 1 (some .int), Cond.methodLink RX8 151 yX8_nextOf, Cond.instanceMethod yX8_nextOf, Cond.selects RX8 yX8_nextOf yX8_nextOf, Cond.code yX8_nextOf cX8_nextOf 2 (some .int), Cond.methodLink RX8 154 yX8_isFull, Cond.instanceMethod yX8_isFull, Cond.selects RX8 yX8_isFull yX8_isFull, Cond.code yX8_isFull cX8_isFull 2 (some .boolean), Cond.fieldLink RX8 22 "ThrownSacksModel" "manyIn" "[I", Cond.fieldLink RX8 19 "ThrownSacksModel" "hangsOn" "[I", Cond.fieldLink RX8 13 "ThrownSacksModel" "roomOf" "[I", Cond.methodLink RX8 157 yX8_tenthsNext, Cond.instanceMethod yX8_tenthsNext, Cond.selects RX8 yX8_tenthsNext yX8_tenthsNext, Cond.code yX8_tenthsNext cX8_tenthsNext 3 (some .int), Cond.methodLink RX8 175 yX8_costNow, Cond.instanceMethod yX8_costNow, Cond.selects RX8 yX8_costNow yX8_costNow, Cond.code yX8_costNow cX8_costNow 3 (some .int), Cond.methodLink RX8 171 yX8_costBy, Cond.instanceMethod yX8_costBy, Cond.selects RX8 yX8_costBy yX8_costBy, Cond.code yX8_costBy cX8_costBy 6 (some .int)]
def wsX8_odds_r3 : List Cond := [Cond.methodLink RX8 164 yX8_walk, Cond.instanceMethod yX8_walk, Cond.selects RX8 yX8_walk yX8_walk, Cond.code yX8_walk cX8_walk 2 (some .int)]
def wsX8_odds : List Cond := .code yX8_odds cX8_odds 4 (some .int) :: ((wsX8_odds_r1 ++ (wsX8_odds_r2 ++ wsX8_odds_r3)) ++ wsX80)
def wsX8_ways : List Cond := .code yX8_ways cX8_ways 3 (some .int) :: ([.fieldLink RX8 109 "ThrownSacksModel" "hooks" "I"] ++ wsX80)
def wsX8_hangBy : List Cond := .code yX8_hangBy cX8_hangBy 8 none :: ([.fieldLink RX8 109 "ThrownSacksModel" "hooks" "I", .fieldLink RX8 19 "ThrownSacksModel" "hangsOn" "[I", .methodLink RX8 181 yX8_ways, .instanceMethod yX8_ways, .selects RX8 yX8_ways yX8_ways, .initialized RX8, .code yX8_ways cX8_ways 3 (some .int)] ++ wsX80)
def wsX8_takesOn : List Cond := .code yX8_takesOn cX8_takesOn 3 (some .int) :: ([.methodLink RX8 148 yX8_tenthsIn, .instanceMethod yX8_tenthsIn, .selects RX8 yX8_tenthsIn yX8_tenthsIn, .initialized RX8, .code yX8_tenthsIn cX8_tenthsIn 4 (some .int), .fieldLink RX8 7 "ThrownSacksModel" "yardsOf" "[I", .methodLink RX8 138 yX8_gripOf, .static yX8_gripOf, .code yX8_gripOf cX8_gripOf 1 (some .int), .methodLink RX8 157 yX8_tenthsNext, .instanceMethod yX8_tenthsNext, .selects RX8 yX8_tenthsNext yX8_tenthsNext, .code yX8_tenthsNext cX8_tenthsNext 3 (some .int), .methodLink RX8 171 yX8_costBy, .instanceMethod yX8_costBy, .selects RX8 yX8_costBy yX8_costBy, .code yX8_costBy cX8_costBy 6 (some .int), .methodLink RX8 164 yX8_walk, .instanceMethod yX8_walk, .selects RX8 yX8_walk yX8_walk, .code yX8_walk cX8_walk 2 (some .int)] ++ wsX80)
def wsX8_takesBy_r1 : List Cond := [Cond.fieldLink RX8 109 "ThrownSacksModel" "hooks" "I", Cond.fieldLink RX8 16 "ThrownSacksModel" "oftenOf" "[I", Cond.fieldLink RX8 19 "ThrownSacksModel" "hangsOn" "[I", Cond.methodLink RX8 185 yX8_takesOn, Cond.instanceMethod yX8_takesOn, Cond.selects RX8 yX8_takesOn yX8_takesOn, Cond.initialized RX8, Cond.code yX8_takesOn cX8_takesOn 3 (some .int), Cond.methodLink RX8 148 yX8_tenthsIn, Cond.instanceMethod yX8_tenthsIn, Cond.selects RX8 yX8_tenthsIn yX8_tenthsIn, Cond.code yX8_tenthsIn cX8_tenthsIn 4 (some .int), Cond.fieldLink RX8 7 "ThrownSacksModel" "yardsOf" "[I", Cond.methodLink RX8 138 yX8_gripOf, Cond.static yX8_gripOf, Cond.code yX8_gripOf cX8_gripOf 1 (some .int), Cond.methodLink RX8 157 yX8_tenthsNext, Cond.instanceMethod yX8_tenthsNext, Cond.selects RX8 yX8_tenthsNext yX8_tenthsNext, Cond.code yX8_tenthsNext cX8_tenthsNext 3 (some .int), Cond.methodLink RX8 171 yX8_costBy, Cond.instanceMethod yX8_costBy, Cond.selects RX8 yX8_costBy yX8_costBy, Cond.code yX8_costBy cX8_costBy 6 (some .int)]
def wsX8_takesBy_r2 : List Cond := [Cond.methodLink RX8 164 yX8_walk, Cond.instanceMethod yX8_walk, Cond.selects RX8 yX8_walk yX8_walk, Cond.code yX8_walk cX8_walk 2 (some .int)]
def wsX8_takesBy : List Cond := .code yX8_takesBy cX8_takesBy 3 (some .int) :: ((wsX8_takesBy_r1 ++ wsX8_takesBy_r2) ++ wsX80)
def wsX8_hookOf : List Cond := .code yX8_hookOf cX8_hookOf 5 (some .int) :: ([.fieldLink RX8 109 "ThrownSacksModel" "hooks" "I", .fieldLink RX8 19 "ThrownSacksModel" "hangsOn" "[I"] ++ wsX80)
def wsX8_exchanges : List Cond := .code yX8_exchanges cX8_exchanges 5 (some .int) :: ([.fieldLink RX8 109 "ThrownSacksModel" "hooks" "I", .fieldLink RX8 19 "ThrownSacksModel" "hangsOn" "[I", .methodLink RX8 188 yX8_hookOf, .instanceMethod yX8_hookOf, .selects RX8 yX8_hookOf yX8_hookOf, .initialized RX8, .code yX8_hookOf cX8_hookOf 5 (some .int)] ++ wsX80)
def wsX8_hangingNow_r1 : List Cond := [Cond.constant RX8 191 (268435456), Cond.fieldLink RX8 109 "ThrownSacksModel" "hooks" "I", Cond.fieldLink RX8 19 "ThrownSacksModel" "hangsOn" "[I", Cond.methodLink RX8 181 yX8_ways, Cond.instanceMethod yX8_ways, Cond.selects RX8 yX8_ways yX8_ways, Cond.initialized RX8, Cond.code yX8_ways cX8_ways 3 (some .int), Cond.methodLink RX8 192 yX8_hangBy, Cond.instanceMethod yX8_hangBy, Cond.selects RX8 yX8_hangBy yX8_hangBy, Cond.code yX8_hangBy cX8_hangBy 8 none, Cond.methodLink RX8 195 yX8_takesBy, Cond.instanceMethod yX8_takesBy, Cond.selects RX8 yX8_takesBy yX8_takesBy, Cond.code yX8_takesBy cX8_takesBy 3 (some .int), Cond.fieldLink RX8 16 "ThrownSacksModel" "oftenOf" "[I", Cond.methodLink RX8 185 yX8_takesOn, Cond.instanceMethod yX8_takesOn, Cond.selects RX8 yX8_takesOn yX8_takesOn, Cond.code yX8_takesOn cX8_takesOn 3 (some .int), Cond.methodLink RX8 148 yX8_tenthsIn, Cond.instanceMethod yX8_tenthsIn, Cond.selects RX8 yX8_tenthsIn yX8_tenthsIn]
def wsX8_hangingNow_r2 : List Cond := [Cond.code yX8_tenthsIn cX8_tenthsIn 4 (some .int), Cond.fieldLink RX8 7 "ThrownSacksModel" "yardsOf" "[I", Cond.methodLink RX8 138 yX8_gripOf, Cond.static yX8_gripOf, Cond.code yX8_gripOf cX8_gripOf 1 (some .int), Cond.methodLink RX8 157 yX8_tenthsNext, Cond.instanceMethod yX8_tenthsNext, Cond.selects RX8 yX8_tenthsNext yX8_tenthsNext, Cond.code yX8_tenthsNext cX8_tenthsNext 3 (some .int), Cond.methodLink RX8 171 yX8_costBy, Cond.instanceMethod yX8_costBy, Cond.selects RX8 yX8_costBy yX8_costBy, Cond.code yX8_costBy cX8_costBy 6 (some .int), Cond.methodLink RX8 164 yX8_walk, Cond.instanceMethod yX8_walk, Cond.selects RX8 yX8_walk yX8_walk, Cond.code yX8_walk cX8_walk 2 (some .int), Cond.methodLink RX8 198 yX8_exchanges, Cond.instanceMethod yX8_exchanges, Cond.selects RX8 yX8_exchanges yX8_exchanges, Cond.code yX8_exchanges cX8_exchanges 5 (some .int), Cond.methodLink RX8 188 yX8_hookOf, Cond.instanceMethod yX8_hookOf, Cond.selects RX8 yX8_hookOf yX8_hookOf]
def wsX8_hangingNow_r3 : List Cond := [Cond.code yX8_hookOf cX8_hookOf 5 (some .int)]
def wsX8_hangingNow : List Cond := .code yX8_hangingNow cX8_hangingNow 6 (some .int) :: ((wsX8_hangingNow_r1 ++ (wsX8_hangingNow_r2 ++ wsX8_hangingNow_r3)) ++ wsX80)
def wsX8_hanging_r1 : List Cond := [Cond.fieldLink RX8 109 "ThrownSacksModel" "hooks" "I", Cond.methodLink RX8 77 yX8_within, Cond.static yX8_within, Cond.initialized RX8, Cond.code yX8_within cX8_within 3 (some .boolean), Cond.methodLink RX8 201 yX8_hangingNow, Cond.instanceMethod yX8_hangingNow, Cond.selects RX8 yX8_hangingNow yX8_hangingNow, Cond.code yX8_hangingNow cX8_hangingNow 6 (some .int), Cond.constant RX8 191 (268435456), Cond.fieldLink RX8 19 "ThrownSacksModel" "hangsOn" "[I", Cond.methodLink RX8 181 yX8_ways, Cond.instanceMethod yX8_ways, Cond.selects RX8 yX8_ways yX8_ways, Cond.code yX8_ways cX8_ways 3 (some .int), Cond.methodLink RX8 192 yX8_hangBy, Cond.instanceMethod yX8_hangBy, Cond.selects RX8 yX8_hangBy yX8_hangBy, Cond.code yX8_hangBy cX8_hangBy 8 none, Cond.methodLink RX8 195 yX8_takesBy, Cond.instanceMethod yX8_takesBy, Cond.selects RX8 yX8_takesBy yX8_takesBy, Cond.code yX8_takesBy cX8_takesBy 3 (some .int), Cond.fieldLink RX8 16 "ThrownSacksModel" "oftenOf" "[I"]
def wsX8_hanging_r2 : List Cond := [Cond.methodLink RX8 185 yX8_takesOn, Cond.instanceMethod yX8_takesOn, Cond.selects RX8 yX8_takesOn yX8_takesOn, Cond.code yX8_takesOn cX8_takesOn 3 (some .int), Cond.methodLink RX8 148 yX8_tenthsIn, Cond.instanceMethod yX8_tenthsIn, Cond.selects RX8 yX8_tenthsIn yX8_tenthsIn, Cond.code yX8_tenthsIn cX8_tenthsIn 4 (some .int), Cond.fieldLink RX8 7 "ThrownSacksModel" "yardsOf" "[I", Cond.methodLink RX8 138 yX8_gripOf, Cond.static yX8_gripOf, Cond.code yX8_gripOf cX8_gripOf 1 (some .int), Cond.methodLink RX8 157 yX8_tenthsNext, Cond.instanceMethod yX8_tenthsNext, Cond.selects RX8 yX8_tenthsNext yX8_tenthsNext, Cond.code yX8_tenthsNext cX8_tenthsNext 3 (some .int), Cond.methodLink RX8 171 yX8_costBy, Cond.instanceMethod yX8_costBy, Cond.selects RX8 yX8_costBy yX8_costBy, Cond.code yX8_costBy cX8_costBy 6 (some .int), Cond.methodLink RX8 164 yX8_walk, Cond.instanceMethod yX8_walk, Cond.selects RX8 yX8_walk yX8_walk, Cond.code yX8_walk cX8_walk 2 (some .int)]
def wsX8_hanging_r3 : List Cond := [Cond.methodLink RX8 198 yX8_exchanges, Cond.instanceMethod yX8_exchanges, Cond.selects RX8 yX8_exchanges yX8_exchanges, Cond.code yX8_exchanges cX8_exchanges 5 (some .int), Cond.methodLink RX8 188 yX8_hookOf, Cond.instanceMethod yX8_hookOf, Cond.selects RX8 yX8_hookOf yX8_hookOf, Cond.code yX8_hookOf cX8_hookOf 5 (some .int)]
def wsX8_hanging : List Cond := .code yX8_hanging cX8_hanging 2 (some .int) :: ((wsX8_hanging_r1 ++ (wsX8_hanging_r2 ++ wsX8_hanging_r3)) ++ wsX80)
def wsX8_found : List Cond := .code yX8_found cX8_found 3 (some .int) :: ([.fieldLink RX8 127 "ThrownSacksModel" "found" "I", .fieldLink RX8 40 "ThrownSacksModel" "foundTown" "[I", .fieldLink RX8 43 "ThrownSacksModel" "foundIn" "[I", .methodLink RX8 130 yX8_isHook, .instanceMethod yX8_isHook, .selects RX8 yX8_isHook yX8_isHook, .initialized RX8, .code yX8_isHook cX8_isHook 2 (some .boolean), .fieldLink RX8 109 "ThrownSacksModel" "hooks" "I", .methodLink RX8 77 yX8_within, .static yX8_within, .code yX8_within cX8_within 3 (some .boolean)] ++ wsX80)
def wsX8_forget : List Cond := .code yX8_forget cX8_forget 2 (some .int) :: ([.fieldLink RX8 127 "ThrownSacksModel" "found" "I"] ++ wsX80)
def wsX8_couldHang : List Cond := .code yX8_couldHang cX8_couldHang 3 (some .boolean) :: ([.fieldLink RX8 127 "ThrownSacksModel" "found" "I", .fieldLink RX8 43 "ThrownSacksModel" "foundIn" "[I", .fieldLink RX8 40 "ThrownSacksModel" "foundTown" "[I", .methodLink RX8 188 yX8_hookOf, .instanceMethod yX8_hookOf, .selects RX8 yX8_hookOf yX8_hookOf, .initialized RX8, .code yX8_hookOf cX8_hookOf 5 (some .int), .fieldLink RX8 109 "ThrownSacksModel" "hooks" "I", .fieldLink RX8 19 "ThrownSacksModel" "hangsOn" "[I", .methodLink RX8 151 yX8_nextOf, .instanceMethod yX8_nextOf, .selects RX8 yX8_nextOf yX8_nextOf, .code yX8_nextOf cX8_nextOf 2 (some .int)] ++ wsX80)
def wsX8_hungNow_r1 : List Cond := [Cond.methodLink RX8 181 yX8_ways, Cond.instanceMethod yX8_ways, Cond.selects RX8 yX8_ways yX8_ways, Cond.initialized RX8, Cond.code yX8_ways cX8_ways 3 (some .int), Cond.fieldLink RX8 109 "ThrownSacksModel" "hooks" "I", Cond.methodLink RX8 192 yX8_hangBy, Cond.instanceMethod yX8_hangBy, Cond.selects RX8 yX8_hangBy yX8_hangBy, Cond.code yX8_hangBy cX8_hangBy 8 none, Cond.fieldLink RX8 19 "ThrownSacksModel" "hangsOn" "[I", Cond.methodLink RX8 204 yX8_couldHang, Cond.instanceMethod yX8_couldHang, Cond.selects RX8 yX8_couldHang yX8_couldHang, Cond.code yX8_couldHang cX8_couldHang 3 (some .boolean), Cond.fieldLink RX8 127 "ThrownSacksModel" "found" "I", Cond.fieldLink RX8 43 "ThrownSacksModel" "foundIn" "[I", Cond.fieldLink RX8 40 "ThrownSacksModel" "foundTown" "[I", Cond.methodLink RX8 188 yX8_hookOf, Cond.instanceMethod yX8_hookOf, Cond.selects RX8 yX8_hookOf yX8_hookOf, Cond.code yX8_hookOf cX8_hookOf 5 (some .int), Cond.methodLink RX8 151 yX8_nextOf, Cond.instanceMethod yX8_nextOf]
def wsX8_hungNow_r2 : List Cond := [Cond.selects RX8 yX8_nextOf yX8_nextOf, Cond.code yX8_nextOf cX8_nextOf 2 (some .int)]
def wsX8_hungNow : List Cond := .code yX8_hungNow cX8_hungNow 3 (some .int) :: ((wsX8_hungNow_r1 ++ wsX8_hungNow_r2) ++ wsX80)
def wsX8_hung_r1 : List Cond := [Cond.fieldLink RX8 109 "ThrownSacksModel" "hooks" "I", Cond.methodLink RX8 208 yX8_hungNow, Cond.instanceMethod yX8_hungNow, Cond.selects RX8 yX8_hungNow yX8_hungNow, Cond.initialized RX8, Cond.code yX8_hungNow cX8_hungNow 3 (some .int), Cond.methodLink RX8 181 yX8_ways, Cond.instanceMethod yX8_ways, Cond.selects RX8 yX8_ways yX8_ways, Cond.code yX8_ways cX8_ways 3 (some .int), Cond.methodLink RX8 192 yX8_hangBy, Cond.instanceMethod yX8_hangBy, Cond.selects RX8 yX8_hangBy yX8_hangBy, Cond.code yX8_hangBy cX8_hangBy 8 none, Cond.fieldLink RX8 19 "ThrownSacksModel" "hangsOn" "[I", Cond.methodLink RX8 204 yX8_couldHang, Cond.instanceMethod yX8_couldHang, Cond.selects RX8 yX8_couldHang yX8_couldHang, Cond.code yX8_couldHang cX8_couldHang 3 (some .boolean), Cond.fieldLink RX8 127 "ThrownSacksModel" "found" "I", Cond.fieldLink RX8 43 "ThrownSacksModel" "foundIn" "[I", Cond.fieldLink RX8 40 "ThrownSacksModel" "foundTown" "[I", Cond.methodLink RX8 188 yX8_hookOf, Cond.instanceMethod yX8_hookOf]
def wsX8_hung_r2 : List Cond := [Cond.selects RX8 yX8_hookOf yX8_hookOf, Cond.code yX8_hookOf cX8_hookOf 5 (some .int), Cond.methodLink RX8 151 yX8_nextOf, Cond.instanceMethod yX8_nextOf, Cond.selects RX8 yX8_nextOf yX8_nextOf, Cond.code yX8_nextOf cX8_nextOf 2 (some .int)]
def wsX8_hung : List Cond := .code yX8_hung cX8_hung 1 (some .int) :: ((wsX8_hung_r1 ++ wsX8_hung_r2) ++ wsX80)
def wsX8_whereNow_r1 : List Cond := [Cond.methodLink RX8 181 yX8_ways, Cond.instanceMethod yX8_ways, Cond.selects RX8 yX8_ways yX8_ways, Cond.initialized RX8, Cond.code yX8_ways cX8_ways 3 (some .int), Cond.fieldLink RX8 109 "ThrownSacksModel" "hooks" "I", Cond.methodLink RX8 192 yX8_hangBy, Cond.instanceMethod yX8_hangBy, Cond.selects RX8 yX8_hangBy yX8_hangBy, Cond.code yX8_hangBy cX8_hangBy 8 none, Cond.fieldLink RX8 19 "ThrownSacksModel" "hangsOn" "[I", Cond.methodLink RX8 204 yX8_couldHang, Cond.instanceMethod yX8_couldHang, Cond.selects RX8 yX8_couldHang yX8_couldHang, Cond.code yX8_couldHang cX8_couldHang 3 (some .boolean), Cond.fieldLink RX8 127 "ThrownSacksModel" "found" "I", Cond.fieldLink RX8 43 "ThrownSacksModel" "foundIn" "[I", Cond.fieldLink RX8 40 "ThrownSacksModel" "foundTown" "[I", Cond.methodLink RX8 188 yX8_hookOf, Cond.instanceMethod yX8_hookOf, Cond.selects RX8 yX8_hookOf yX8_hookOf, Cond.code yX8_hookOf cX8_hookOf 5 (some .int), Cond.methodLink RX8 151 yX8_nextOf, Cond.instanceMethod yX8_nextOf]
def wsX8_whereNow_r2 : List Cond := [Cond.selects RX8 yX8_nextOf yX8_nextOf, Cond.code yX8_nextOf cX8_nextOf 2 (some .int)]
def wsX8_whereNow : List Cond := .code yX8_whereNow cX8_whereNow 4 (some .int) :: ((wsX8_whereNow_r1 ++ wsX8_whereNow_r2) ++ wsX80)
def wsX8_where_r1 : List Cond := [Cond.methodLink RX8 130 yX8_isHook, Cond.instanceMethod yX8_isHook, Cond.selects RX8 yX8_isHook yX8_isHook, Cond.initialized RX8, Cond.code yX8_isHook cX8_isHook 2 (some .boolean), Cond.fieldLink RX8 109 "ThrownSacksModel" "hooks" "I", Cond.methodLink RX8 77 yX8_within, Cond.static yX8_within, Cond.code yX8_within cX8_within 3 (some .boolean), Cond.methodLink RX8 211 yX8_whereNow, Cond.instanceMethod yX8_whereNow, Cond.selects RX8 yX8_whereNow yX8_whereNow, Cond.code yX8_whereNow cX8_whereNow 4 (some .int), Cond.methodLink RX8 181 yX8_ways, Cond.instanceMethod yX8_ways, Cond.selects RX8 yX8_ways yX8_ways, Cond.code yX8_ways cX8_ways 3 (some .int), Cond.methodLink RX8 192 yX8_hangBy, Cond.instanceMethod yX8_hangBy, Cond.selects RX8 yX8_hangBy yX8_hangBy, Cond.code yX8_hangBy cX8_hangBy 8 none, Cond.fieldLink RX8 19 "ThrownSacksModel" "hangsOn" "[I", Cond.methodLink RX8 204 yX8_couldHang, Cond.instanceMethod yX8_couldHang]
def wsX8_where_r2 : List Cond := [Cond.selects RX8 yX8_couldHang yX8_couldHang, Cond.code yX8_couldHang cX8_couldHang 3 (some .boolean), Cond.fieldLink RX8 127 "ThrownSacksModel" "found" "I", Cond.fieldLink RX8 43 "ThrownSacksModel" "foundIn" "[I", Cond.fieldLink RX8 40 "ThrownSacksModel" "foundTown" "[I", Cond.methodLink RX8 188 yX8_hookOf, Cond.instanceMethod yX8_hookOf, Cond.selects RX8 yX8_hookOf yX8_hookOf, Cond.code yX8_hookOf cX8_hookOf 5 (some .int), Cond.methodLink RX8 151 yX8_nextOf, Cond.instanceMethod yX8_nextOf, Cond.selects RX8 yX8_nextOf yX8_nextOf, Cond.code yX8_nextOf cX8_nextOf 2 (some .int)]
def wsX8_where : List Cond := .code yX8_where cX8_where 2 (some .int) :: ((wsX8_where_r1 ++ wsX8_where_r2) ++ wsX80)
def wsX8_draw : List Cond := .code yX8_draw cX8_draw 2 (some .int) :: ([.constantLong RX8 214 (1103515245), .fieldLink RX8 216 "ThrownSacksModel" "seedNow" "J", .constantLong RX8 220 (12345), .constantLong RX8 222 (2147483647), .constantLong RX8 224 (65536)] ++ wsX80)
def wsX8_wouldBeFull : List Cond := .code yX8_wouldBeFull cX8_wouldBeFull 2 (some .boolean) :: ([.fieldLink RX8 22 "ThrownSacksModel" "manyIn" "[I", .fieldLink RX8 19 "ThrownSacksModel" "hangsOn" "[I", .fieldLink RX8 13 "ThrownSacksModel" "roomOf" "[I"] ++ wsX80)
def wsX8_goParcel_r1 : List Cond := [Cond.fieldLink RX8 109 "ThrownSacksModel" "hooks" "I", Cond.fieldLink RX8 22 "ThrownSacksModel" "manyIn" "[I", Cond.fieldLink RX8 232 "ThrownSacksModel" "cameNext" "I", Cond.fieldLink RX8 235 "ThrownSacksModel" "layBeside" "I", Cond.fieldLink RX8 19 "ThrownSacksModel" "hangsOn" "[I", Cond.methodLink RX8 226 yX8_draw, Cond.instanceMethod yX8_draw, Cond.selects RX8 yX8_draw yX8_draw, Cond.initialized RX8, Cond.code yX8_draw cX8_draw 2 (some .int), Cond.constantLong RX8 214 (1103515245), Cond.fieldLink RX8 216 "ThrownSacksModel" "seedNow" "J", Cond.constantLong RX8 220 (12345), Cond.constantLong RX8 222 (2147483647), Cond.constantLong RX8 224 (65536), Cond.methodLink RX8 188 yX8_hookOf, Cond.instanceMethod yX8_hookOf, Cond.selects RX8 yX8_hookOf yX8_hookOf, Cond.code yX8_hookOf cX8_hookOf 5 (some .int), Cond.methodLink RX8 229 yX8_wouldBeFull, Cond.instanceMethod yX8_wouldBeFull, Cond.selects RX8 yX8_wouldBeFull yX8_wouldBeFull, Cond.code yX8_wouldBeFull cX8_wouldBeFull 2 (some .boolean), Cond.fieldLink RX8 13 "ThrownSacksModel" "roomOf" "[I"]
def wsX8_goParcel_r2 : List Cond := [Cond.methodLink RX8 148 yX8_tenthsIn, Cond.instanceMethod yX8_tenthsIn, Cond.selects RX8 yX8_tenthsIn yX8_tenthsIn, Cond.code yX8_tenthsIn cX8_tenthsIn 4 (some .int), Cond.fieldLink RX8 7 "ThrownSacksModel" "yardsOf" "[I", Cond.methodLink RX8 138 yX8_gripOf, Cond.static yX8_gripOf, Cond.code yX8_gripOf cX8_gripOf 1 (some .int), Cond.methodLink RX8 157 yX8_tenthsNext, Cond.instanceMethod yX8_tenthsNext, Cond.selects RX8 yX8_tenthsNext yX8_tenthsNext, Cond.code yX8_tenthsNext cX8_tenthsNext 3 (some .int), Cond.methodLink RX8 151 yX8_nextOf, Cond.instanceMethod yX8_nextOf, Cond.selects RX8 yX8_nextOf yX8_nextOf, Cond.code yX8_nextOf cX8_nextOf 2 (some .int)]
def wsX8_goParcel : List Cond := .code yX8_goParcel cX8_goParcel 7 none :: ((wsX8_goParcel_r1 ++ wsX8_goParcel_r2) ++ wsX80)
def wsX8_shiftsNow_r1 : List Cond := [Cond.fieldLink RX8 22 "ThrownSacksModel" "manyIn" "[I", Cond.fieldLink RX8 216 "ThrownSacksModel" "seedNow" "J", Cond.fieldLink RX8 232 "ThrownSacksModel" "cameNext" "I", Cond.fieldLink RX8 235 "ThrownSacksModel" "layBeside" "I", Cond.methodLink RX8 238 yX8_goParcel, Cond.instanceMethod yX8_goParcel, Cond.selects RX8 yX8_goParcel yX8_goParcel, Cond.initialized RX8, Cond.code yX8_goParcel cX8_goParcel 7 none, Cond.fieldLink RX8 109 "ThrownSacksModel" "hooks" "I", Cond.fieldLink RX8 19 "ThrownSacksModel" "hangsOn" "[I", Cond.methodLink RX8 226 yX8_draw, Cond.instanceMethod yX8_draw, Cond.selects RX8 yX8_draw yX8_draw, Cond.code yX8_draw cX8_draw 2 (some .int), Cond.constantLong RX8 214 (1103515245), Cond.constantLong RX8 220 (12345), Cond.constantLong RX8 222 (2147483647), Cond.constantLong RX8 224 (65536), Cond.methodLink RX8 188 yX8_hookOf, Cond.instanceMethod yX8_hookOf, Cond.selects RX8 yX8_hookOf yX8_hookOf, Cond.code yX8_hookOf cX8_hookOf 5 (some .int), Cond.methodLink RX8 229 yX8_wouldBeFull]
def wsX8_shiftsNow_r2 : List Cond := [Cond.instanceMethod yX8_wouldBeFull, Cond.selects RX8 yX8_wouldBeFull yX8_wouldBeFull, Cond.code yX8_wouldBeFull cX8_wouldBeFull 2 (some .boolean), Cond.fieldLink RX8 13 "ThrownSacksModel" "roomOf" "[I", Cond.methodLink RX8 148 yX8_tenthsIn, Cond.instanceMethod yX8_tenthsIn, Cond.selects RX8 yX8_tenthsIn yX8_tenthsIn, Cond.code yX8_tenthsIn cX8_tenthsIn 4 (some .int), Cond.fieldLink RX8 7 "ThrownSacksModel" "yardsOf" "[I", Cond.methodLink RX8 138 yX8_gripOf, Cond.static yX8_gripOf, Cond.code yX8_gripOf cX8_gripOf 1 (some .int), Cond.methodLink RX8 157 yX8_tenthsNext, Cond.instanceMethod yX8_tenthsNext, Cond.selects RX8 yX8_tenthsNext yX8_tenthsNext, Cond.code yX8_tenthsNext cX8_tenthsNext 3 (some .int), Cond.methodLink RX8 151 yX8_nextOf, Cond.instanceMethod yX8_nextOf, Cond.selects RX8 yX8_nextOf yX8_nextOf, Cond.code yX8_nextOf cX8_nextOf 2 (some .int)]
def wsX8_shiftsNow : List Cond := .code yX8_shiftsNow cX8_shiftsNow 5 (some .int) :: ((wsX8_shiftsNow_r1 ++ wsX8_shiftsNow_r2) ++ wsX80)
def wsX8_shifts_r1 : List Cond := [Cond.fieldLink RX8 109 "ThrownSacksModel" "hooks" "I", Cond.methodLink RX8 77 yX8_within, Cond.static yX8_within, Cond.initialized RX8, Cond.code yX8_within cX8_within 3 (some .boolean), Cond.methodLink RX8 241 yX8_shiftsNow, Cond.instanceMethod yX8_shiftsNow, Cond.selects RX8 yX8_shiftsNow yX8_shiftsNow, Cond.code yX8_shiftsNow cX8_shiftsNow 5 (some .int), Cond.fieldLink RX8 22 "ThrownSacksModel" "manyIn" "[I", Cond.fieldLink RX8 216 "ThrownSacksModel" "seedNow" "J", Cond.fieldLink RX8 232 "ThrownSacksModel" "cameNext" "I", Cond.fieldLink RX8 235 "ThrownSacksModel" "layBeside" "I", Cond.methodLink RX8 238 yX8_goParcel, Cond.instanceMethod yX8_goParcel, Cond.selects RX8 yX8_goParcel yX8_goParcel, Cond.code yX8_goParcel cX8_goParcel 7 none, Cond.fieldLink RX8 19 "ThrownSacksModel" "hangsOn" "[I", Cond.methodLink RX8 226 yX8_draw, Cond.instanceMethod yX8_draw, Cond.selects RX8 yX8_draw yX8_draw, Cond.code yX8_draw cX8_draw 2 (some .int), Cond.constantLong RX8 214 (1103515245), Cond.constantLong RX8 220 (12345)]
def wsX8_shifts_r2 : List Cond := [Cond.constantLong RX8 222 (2147483647), Cond.constantLong RX8 224 (65536), Cond.methodLink RX8 188 yX8_hookOf, Cond.instanceMethod yX8_hookOf, Cond.selects RX8 yX8_hookOf yX8_hookOf, Cond.code yX8_hookOf cX8_hookOf 5 (some .int), Cond.methodLink RX8 229 yX8_wouldBeFull, Cond.instanceMethod yX8_wouldBeFull, Cond.selects RX8 yX8_wouldBeFull yX8_wouldBeFull, Cond.code yX8_wouldBeFull cX8_wouldBeFull 2 (some .boolean), Cond.fieldLink RX8 13 "ThrownSacksModel" "roomOf" "[I", Cond.methodLink RX8 148 yX8_tenthsIn, Cond.instanceMethod yX8_tenthsIn, Cond.selects RX8 yX8_tenthsIn yX8_tenthsIn, Cond.code yX8_tenthsIn cX8_tenthsIn 4 (some .int), Cond.fieldLink RX8 7 "ThrownSacksModel" "yardsOf" "[I", Cond.methodLink RX8 138 yX8_gripOf, Cond.static yX8_gripOf, Cond.code yX8_gripOf cX8_gripOf 1 (some .int), Cond.methodLink RX8 157 yX8_tenthsNext, Cond.instanceMethod yX8_tenthsNext, Cond.selects RX8 yX8_tenthsNext yX8_tenthsNext, Cond.code yX8_tenthsNext cX8_tenthsNext 3 (some .int), Cond.methodLink RX8 151 yX8_nextOf]
def wsX8_shifts_r3 : List Cond := [Cond.instanceMethod yX8_nextOf, Cond.selects RX8 yX8_nextOf yX8_nextOf, Cond.code yX8_nextOf cX8_nextOf 2 (some .int)]
def wsX8_shifts : List Cond := .code yX8_shifts cX8_shifts 4 (some .int) :: ((wsX8_shifts_r1 ++ (wsX8_shifts_r2 ++ wsX8_shifts_r3)) ++ wsX80)
def wsX8_image_r1 : List Cond := [Cond.fieldLink RX8 109 "ThrownSacksModel" "hooks" "I", Cond.fieldLink RX8 244 "ThrownSacksModel" "isKept" "Z", Cond.fieldLink RX8 115 "ThrownSacksModel" "floors" "I", Cond.fieldLink RX8 247 "ThrownSacksModel" "keptFloor" "I", Cond.fieldLink RX8 118 "ThrownSacksModel" "onBelt" "I", Cond.fieldLink RX8 250 "ThrownSacksModel" "keptBelt" "I", Cond.fieldLink RX8 121 "ThrownSacksModel" "seconds" "I", Cond.fieldLink RX8 253 "ThrownSacksModel" "keptSeconds" "I", Cond.fieldLink RX8 124 "ThrownSacksModel" "harmed" "I", Cond.fieldLink RX8 256 "ThrownSacksModel" "keptHarmed" "I", Cond.fieldLink RX8 127 "ThrownSacksModel" "found" "I", Cond.fieldLink RX8 259 "ThrownSacksModel" "keptFound" "I", Cond.fieldLink RX8 50 "ThrownSacksModel" "keptHangs" "[I", Cond.fieldLink RX8 19 "ThrownSacksModel" "hangsOn" "[I", Cond.fieldLink RX8 53 "ThrownSacksModel" "keptMany" "[I", Cond.fieldLink RX8 22 "ThrownSacksModel" "manyIn" "[I", Cond.fieldLink RX8 56 "ThrownSacksModel" "keptWrong" "[I", Cond.fieldLink RX8 25 "ThrownSacksModel" "wrongIn" "[I", Cond.fieldLink RX8 59 "ThrownSacksModel" "keptGlass" "[I", Cond.fieldLink RX8 28 "ThrownSacksModel" "glassIn" "[I", Cond.fieldLink RX8 62 "ThrownSacksModel" "keptWhole" "[I", Cond.fieldLink RX8 31 "ThrownSacksModel" "wholeIn" "[I", Cond.fieldLink RX8 65 "ThrownSacksModel" "keptKind" "[I", Cond.fieldLink RX8 34 "ThrownSacksModel" "beltKind" "[I"]
def wsX8_image_r2 : List Cond := [Cond.fieldLink RX8 68 "ThrownSacksModel" "keptTown" "[I", Cond.fieldLink RX8 37 "ThrownSacksModel" "beltTown" "[I", Cond.fieldLink RX8 71 "ThrownSacksModel" "keptFoundTown" "[I", Cond.fieldLink RX8 40 "ThrownSacksModel" "foundTown" "[I", Cond.fieldLink RX8 74 "ThrownSacksModel" "keptFoundIn" "[I", Cond.fieldLink RX8 43 "ThrownSacksModel" "foundIn" "[I"]
def wsX8_image : List Cond := .code yX8_image cX8_image 2 (some .int) :: ((wsX8_image_r1 ++ wsX8_image_r2) ++ wsX80)
def wsX8_restore_r1 : List Cond := [Cond.fieldLink RX8 244 "ThrownSacksModel" "isKept" "Z", Cond.fieldLink RX8 247 "ThrownSacksModel" "keptFloor" "I", Cond.fieldLink RX8 115 "ThrownSacksModel" "floors" "I", Cond.fieldLink RX8 250 "ThrownSacksModel" "keptBelt" "I", Cond.fieldLink RX8 118 "ThrownSacksModel" "onBelt" "I", Cond.fieldLink RX8 253 "ThrownSacksModel" "keptSeconds" "I", Cond.fieldLink RX8 121 "ThrownSacksModel" "seconds" "I", Cond.fieldLink RX8 256 "ThrownSacksModel" "keptHarmed" "I", Cond.fieldLink RX8 124 "ThrownSacksModel" "harmed" "I", Cond.fieldLink RX8 259 "ThrownSacksModel" "keptFound" "I", Cond.fieldLink RX8 127 "ThrownSacksModel" "found" "I", Cond.fieldLink RX8 19 "ThrownSacksModel" "hangsOn" "[I", Cond.fieldLink RX8 50 "ThrownSacksModel" "keptHangs" "[I", Cond.fieldLink RX8 22 "ThrownSacksModel" "manyIn" "[I", Cond.fieldLink RX8 53 "ThrownSacksModel" "keptMany" "[I", Cond.fieldLink RX8 25 "ThrownSacksModel" "wrongIn" "[I", Cond.fieldLink RX8 56 "ThrownSacksModel" "keptWrong" "[I", Cond.fieldLink RX8 28 "ThrownSacksModel" "glassIn" "[I", Cond.fieldLink RX8 59 "ThrownSacksModel" "keptGlass" "[I", Cond.fieldLink RX8 31 "ThrownSacksModel" "wholeIn" "[I", Cond.fieldLink RX8 62 "ThrownSacksModel" "keptWhole" "[I", Cond.fieldLink RX8 34 "ThrownSacksModel" "beltKind" "[I", Cond.fieldLink RX8 65 "ThrownSacksModel" "keptKind" "[I", Cond.fieldLink RX8 37 "ThrownSacksModel" "beltTown" "[I"]
def wsX8_restore_r2 : List Cond := [Cond.fieldLink RX8 68 "ThrownSacksModel" "keptTown" "[I", Cond.fieldLink RX8 40 "ThrownSacksModel" "foundTown" "[I", Cond.fieldLink RX8 71 "ThrownSacksModel" "keptFoundTown" "[I", Cond.fieldLink RX8 43 "ThrownSacksModel" "foundIn" "[I", Cond.fieldLink RX8 74 "ThrownSacksModel" "keptFoundIn" "[I"]
def wsX8_restore : List Cond := .code yX8_restore cX8_restore 2 (some .int) :: ((wsX8_restore_r1 ++ wsX8_restore_r2) ++ wsX80)
def wsX8_inSacks : List Cond := .code yX8_inSacks cX8_inSacks 4 (some .int) :: ([.fieldLink RX8 109 "ThrownSacksModel" "hooks" "I", .fieldLink RX8 25 "ThrownSacksModel" "wrongIn" "[I", .fieldLink RX8 22 "ThrownSacksModel" "manyIn" "[I"] ++ wsX80)
def wsX8_howMany : List Cond := .code yX8_howMany cX8_howMany 2 (some .int) :: ([.fieldLink RX8 109 "ThrownSacksModel" "hooks" "I", .fieldLink RX8 118 "ThrownSacksModel" "onBelt" "I", .fieldLink RX8 121 "ThrownSacksModel" "seconds" "I", .fieldLink RX8 124 "ThrownSacksModel" "harmed" "I", .fieldLink RX8 127 "ThrownSacksModel" "found" "I", .fieldLink RX8 81 "ThrownSacksModel" "pageLength" "I", .fieldLink RX8 115 "ThrownSacksModel" "floors" "I", .methodLink RX8 262 yX8_inSacks, .instanceMethod yX8_inSacks, .selects RX8 yX8_inSacks yX8_inSacks, .initialized RX8, .code yX8_inSacks cX8_inSacks 4 (some .int), .fieldLink RX8 25 "ThrownSacksModel" "wrongIn" "[I", .fieldLink RX8 22 "ThrownSacksModel" "manyIn" "[I"] ++ wsX80)
def wsX8_count : List Cond := .code yX8_count cX8_count 2 (some .int) :: ([.methodLink RX8 266 yX8_howMany, .instanceMethod yX8_howMany, .selects RX8 yX8_howMany yX8_howMany, .initialized RX8, .code yX8_howMany cX8_howMany 2 (some .int), .fieldLink RX8 109 "ThrownSacksModel" "hooks" "I", .fieldLink RX8 118 "ThrownSacksModel" "onBelt" "I", .fieldLink RX8 121 "ThrownSacksModel" "seconds" "I", .fieldLink RX8 124 "ThrownSacksModel" "harmed" "I", .fieldLink RX8 127 "ThrownSacksModel" "found" "I", .fieldLink RX8 81 "ThrownSacksModel" "pageLength" "I", .fieldLink RX8 115 "ThrownSacksModel" "floors" "I", .methodLink RX8 262 yX8_inSacks, .instanceMethod yX8_inSacks, .selects RX8 yX8_inSacks yX8_inSacks, .code yX8_inSacks cX8_inSacks 4 (some .int), .fieldLink RX8 25 "ThrownSacksModel" "wrongIn" "[I", .fieldLink RX8 22 "ThrownSacksModel" "manyIn" "[I"] ++ wsX80)
def wsX8_mix : List Cond := .code yX8_mix cX8_mix 3 none :: ([.constantLong RX8 269 (31), .fieldLink RX8 271 "ThrownSacksModel" "h" "J"] ++ wsX80)
def wsX8_mixHook_r1 : List Cond := [Cond.methodLink RX8 134 yX8_hookNow, Cond.instanceMethod yX8_hookNow, Cond.selects RX8 yX8_hookNow yX8_hookNow, Cond.initialized RX8, Cond.code yX8_hookNow cX8_hookNow 4 (some .int), Cond.fieldLink RX8 19 "ThrownSacksModel" "hangsOn" "[I", Cond.fieldLink RX8 7 "ThrownSacksModel" "yardsOf" "[I", Cond.fieldLink RX8 13 "ThrownSacksModel" "roomOf" "[I", Cond.fieldLink RX8 22 "ThrownSacksModel" "manyIn" "[I", Cond.fieldLink RX8 25 "ThrownSacksModel" "wrongIn" "[I", Cond.fieldLink RX8 28 "ThrownSacksModel" "glassIn" "[I", Cond.fieldLink RX8 16 "ThrownSacksModel" "oftenOf" "[I", Cond.methodLink RX8 274 yX8_mix, Cond.instanceMethod yX8_mix, Cond.selects RX8 yX8_mix yX8_mix, Cond.code yX8_mix cX8_mix 3 none, Cond.constantLong RX8 269 (31), Cond.fieldLink RX8 271 "ThrownSacksModel" "h" "J", Cond.methodLink RX8 178 yX8_oddsNow, Cond.instanceMethod yX8_oddsNow, Cond.selects RX8 yX8_oddsNow yX8_oddsNow, Cond.code yX8_oddsNow cX8_oddsNow 4 (some .int), Cond.methodLink RX8 160 yX8_tenthsOf, Cond.instanceMethod yX8_tenthsOf]
def wsX8_mixHook_r2 : List Cond := [Cond.selects RX8 yX8_tenthsOf yX8_tenthsOf, Cond.code yX8_tenthsOf cX8_tenthsOf 6 (some .int), Cond.methodLink RX8 148 yX8_tenthsIn, Cond.instanceMethod yX8_tenthsIn, Cond.selects RX8 yX8_tenthsIn yX8_tenthsIn, Cond.code yX8_tenthsIn cX8_tenthsIn 4 (some .int), Cond.methodLink RX8 138 yX8_gripOf, Cond.static yX8_gripOf, Cond.code yX8_gripOf cX8_gripOf 1 (some .int), Cond.methodLink RX8 151 yX8_nextOf, Cond.instanceMethod yX8_nextOf, Cond.selects RX8 yX8_nextOf yX8_nextOf, Cond.code yX8_nextOf cX8_nextOf 2 (some .int), Cond.fieldLink RX8 109 "ThrownSacksModel" "hooks" "I", Cond.methodLink RX8 154 yX8_isFull, Cond.instanceMethod yX8_isFull, Cond.selects RX8 yX8_isFull yX8_isFull, Cond.code yX8_isFull cX8_isFull 2 (some .boolean), Cond.methodLink RX8 157 yX8_tenthsNext, Cond.instanceMethod yX8_tenthsNext, Cond.selects RX8 yX8_tenthsNext yX8_tenthsNext, Cond.code yX8_tenthsNext cX8_tenthsNext 3 (some .int), Cond.methodLink RX8 175 yX8_costNow, Cond.instanceMethod yX8_costNow]
def wsX8_mixHook_r3 : List Cond := [Cond.selects RX8 yX8_costNow yX8_costNow, Cond.code yX8_costNow cX8_costNow 3 (some .int), Cond.methodLink RX8 171 yX8_costBy, Cond.instanceMethod yX8_costBy, Cond.selects RX8 yX8_costBy yX8_costBy, Cond.code yX8_costBy cX8_costBy 6 (some .int), Cond.methodLink RX8 164 yX8_walk, Cond.instanceMethod yX8_walk, Cond.selects RX8 yX8_walk yX8_walk, Cond.code yX8_walk cX8_walk 2 (some .int)]
def wsX8_mixHook : List Cond := .code yX8_mixHook cX8_mixHook 3 none :: ((wsX8_mixHook_r1 ++ (wsX8_mixHook_r2 ++ wsX8_mixHook_r3)) ++ wsX80)
def wsX8_mixFloor_r1 : List Cond := [Cond.fieldLink RX8 109 "ThrownSacksModel" "hooks" "I", Cond.methodLink RX8 201 yX8_hangingNow, Cond.instanceMethod yX8_hangingNow, Cond.selects RX8 yX8_hangingNow yX8_hangingNow, Cond.initialized RX8, Cond.code yX8_hangingNow cX8_hangingNow 6 (some .int), Cond.constant RX8 191 (268435456), Cond.fieldLink RX8 19 "ThrownSacksModel" "hangsOn" "[I", Cond.methodLink RX8 181 yX8_ways, Cond.instanceMethod yX8_ways, Cond.selects RX8 yX8_ways yX8_ways, Cond.code yX8_ways cX8_ways 3 (some .int), Cond.methodLink RX8 192 yX8_hangBy, Cond.instanceMethod yX8_hangBy, Cond.selects RX8 yX8_hangBy yX8_hangBy, Cond.code yX8_hangBy cX8_hangBy 8 none, Cond.methodLink RX8 195 yX8_takesBy, Cond.instanceMethod yX8_takesBy, Cond.selects RX8 yX8_takesBy yX8_takesBy, Cond.code yX8_takesBy cX8_takesBy 3 (some .int), Cond.fieldLink RX8 16 "ThrownSacksModel" "oftenOf" "[I", Cond.methodLink RX8 185 yX8_takesOn, Cond.instanceMethod yX8_takesOn, Cond.selects RX8 yX8_takesOn yX8_takesOn]
def wsX8_mixFloor_r2 : List Cond := [Cond.code yX8_takesOn cX8_takesOn 3 (some .int), Cond.methodLink RX8 148 yX8_tenthsIn, Cond.instanceMethod yX8_tenthsIn, Cond.selects RX8 yX8_tenthsIn yX8_tenthsIn, Cond.code yX8_tenthsIn cX8_tenthsIn 4 (some .int), Cond.fieldLink RX8 7 "ThrownSacksModel" "yardsOf" "[I", Cond.methodLink RX8 138 yX8_gripOf, Cond.static yX8_gripOf, Cond.code yX8_gripOf cX8_gripOf 1 (some .int), Cond.methodLink RX8 157 yX8_tenthsNext, Cond.instanceMethod yX8_tenthsNext, Cond.selects RX8 yX8_tenthsNext yX8_tenthsNext, Cond.code yX8_tenthsNext cX8_tenthsNext 3 (some .int), Cond.methodLink RX8 171 yX8_costBy, Cond.instanceMethod yX8_costBy, Cond.selects RX8 yX8_costBy yX8_costBy, Cond.code yX8_costBy cX8_costBy 6 (some .int), Cond.methodLink RX8 164 yX8_walk, Cond.instanceMethod yX8_walk, Cond.selects RX8 yX8_walk yX8_walk, Cond.code yX8_walk cX8_walk 2 (some .int), Cond.methodLink RX8 198 yX8_exchanges, Cond.instanceMethod yX8_exchanges, Cond.selects RX8 yX8_exchanges yX8_exchanges]
def wsX8_mixFloor_r3 : List Cond := [Cond.code yX8_exchanges cX8_exchanges 5 (some .int), Cond.methodLink RX8 188 yX8_hookOf, Cond.instanceMethod yX8_hookOf, Cond.selects RX8 yX8_hookOf yX8_hookOf, Cond.code yX8_hookOf cX8_hookOf 5 (some .int), Cond.methodLink RX8 274 yX8_mix, Cond.instanceMethod yX8_mix, Cond.selects RX8 yX8_mix yX8_mix, Cond.code yX8_mix cX8_mix 3 none, Cond.constantLong RX8 269 (31), Cond.fieldLink RX8 271 "ThrownSacksModel" "h" "J", Cond.methodLink RX8 208 yX8_hungNow, Cond.instanceMethod yX8_hungNow, Cond.selects RX8 yX8_hungNow yX8_hungNow, Cond.code yX8_hungNow cX8_hungNow 3 (some .int), Cond.methodLink RX8 204 yX8_couldHang, Cond.instanceMethod yX8_couldHang, Cond.selects RX8 yX8_couldHang yX8_couldHang, Cond.code yX8_couldHang cX8_couldHang 3 (some .boolean), Cond.fieldLink RX8 127 "ThrownSacksModel" "found" "I", Cond.fieldLink RX8 43 "ThrownSacksModel" "foundIn" "[I", Cond.fieldLink RX8 40 "ThrownSacksModel" "foundTown" "[I", Cond.methodLink RX8 151 yX8_nextOf, Cond.instanceMethod yX8_nextOf]
def wsX8_mixFloor_r4 : List Cond := [Cond.selects RX8 yX8_nextOf yX8_nextOf, Cond.code yX8_nextOf cX8_nextOf 2 (some .int), Cond.methodLink RX8 211 yX8_whereNow, Cond.instanceMethod yX8_whereNow, Cond.selects RX8 yX8_whereNow yX8_whereNow, Cond.code yX8_whereNow cX8_whereNow 4 (some .int)]
def wsX8_mixFloor : List Cond := .code yX8_mixFloor cX8_mixFloor 2 none :: ((wsX8_mixFloor_r1 ++ (wsX8_mixFloor_r2 ++ (wsX8_mixFloor_r3 ++ wsX8_mixFloor_r4))) ++ wsX80)
def wsX8_digest_r1 : List Cond := [Cond.constantLong RX8 278 (827), Cond.fieldLink RX8 271 "ThrownSacksModel" "h" "J", Cond.fieldLink RX8 109 "ThrownSacksModel" "hooks" "I", Cond.fieldLink RX8 118 "ThrownSacksModel" "onBelt" "I", Cond.fieldLink RX8 81 "ThrownSacksModel" "pageLength" "I", Cond.fieldLink RX8 46 "ThrownSacksModel" "page" "[B", Cond.methodLink RX8 280 yX8_mixHook, Cond.instanceMethod yX8_mixHook, Cond.selects RX8 yX8_mixHook yX8_mixHook, Cond.initialized RX8, Cond.code yX8_mixHook cX8_mixHook 3 none, Cond.methodLink RX8 134 yX8_hookNow, Cond.instanceMethod yX8_hookNow, Cond.selects RX8 yX8_hookNow yX8_hookNow, Cond.code yX8_hookNow cX8_hookNow 4 (some .int), Cond.fieldLink RX8 19 "ThrownSacksModel" "hangsOn" "[I", Cond.fieldLink RX8 7 "ThrownSacksModel" "yardsOf" "[I", Cond.fieldLink RX8 13 "ThrownSacksModel" "roomOf" "[I", Cond.fieldLink RX8 22 "ThrownSacksModel" "manyIn" "[I", Cond.fieldLink RX8 25 "ThrownSacksModel" "wrongIn" "[I", Cond.fieldLink RX8 28 "ThrownSacksModel" "glassIn" "[I", Cond.fieldLink RX8 16 "ThrownSacksModel" "oftenOf" "[I", Cond.methodLink RX8 274 yX8_mix, Cond.instanceMethod yX8_mix]
def wsX8_digest_r2 : List Cond := [Cond.selects RX8 yX8_mix yX8_mix, Cond.code yX8_mix cX8_mix 3 none, Cond.constantLong RX8 269 (31), Cond.methodLink RX8 178 yX8_oddsNow, Cond.instanceMethod yX8_oddsNow, Cond.selects RX8 yX8_oddsNow yX8_oddsNow, Cond.code yX8_oddsNow cX8_oddsNow 4 (some .int), Cond.methodLink RX8 160 yX8_tenthsOf, Cond.instanceMethod yX8_tenthsOf, Cond.selects RX8 yX8_tenthsOf yX8_tenthsOf, Cond.code yX8_tenthsOf cX8_tenthsOf 6 (some .int), Cond.methodLink RX8 148 yX8_tenthsIn, Cond.instanceMethod yX8_tenthsIn, Cond.selects RX8 yX8_tenthsIn yX8_tenthsIn, Cond.code yX8_tenthsIn cX8_tenthsIn 4 (some .int), Cond.methodLink RX8 138 yX8_gripOf, Cond.static yX8_gripOf, Cond.code yX8_gripOf cX8_gripOf 1 (some .int), Cond.methodLink RX8 151 yX8_nextOf, Cond.instanceMethod yX8_nextOf, Cond.selects RX8 yX8_nextOf yX8_nextOf, Cond.code yX8_nextOf cX8_nextOf 2 (some .int), Cond.methodLink RX8 154 yX8_isFull, Cond.instanceMethod yX8_isFull]
def wsX8_digest_r3 : List Cond := [Cond.selects RX8 yX8_isFull yX8_isFull, Cond.code yX8_isFull cX8_isFull 2 (some .boolean), Cond.methodLink RX8 157 yX8_tenthsNext, Cond.instanceMethod yX8_tenthsNext, Cond.selects RX8 yX8_tenthsNext yX8_tenthsNext, Cond.code yX8_tenthsNext cX8_tenthsNext 3 (some .int), Cond.methodLink RX8 175 yX8_costNow, Cond.instanceMethod yX8_costNow, Cond.selects RX8 yX8_costNow yX8_costNow, Cond.code yX8_costNow cX8_costNow 3 (some .int), Cond.methodLink RX8 171 yX8_costBy, Cond.instanceMethod yX8_costBy, Cond.selects RX8 yX8_costBy yX8_costBy, Cond.code yX8_costBy cX8_costBy 6 (some .int), Cond.methodLink RX8 164 yX8_walk, Cond.instanceMethod yX8_walk, Cond.selects RX8 yX8_walk yX8_walk, Cond.code yX8_walk cX8_walk 2 (some .int), Cond.methodLink RX8 145 yX8_beltNow, Cond.instanceMethod yX8_beltNow, Cond.selects RX8 yX8_beltNow yX8_beltNow, Cond.code yX8_beltNow cX8_beltNow 3 (some .int), Cond.fieldLink RX8 34 "ThrownSacksModel" "beltKind" "[I", Cond.fieldLink RX8 37 "ThrownSacksModel" "beltTown" "[I"]
def wsX8_digest_r4 : List Cond := [Cond.methodLink RX8 283 yX8_mixFloor, Cond.instanceMethod yX8_mixFloor, Cond.selects RX8 yX8_mixFloor yX8_mixFloor, Cond.code yX8_mixFloor cX8_mixFloor 2 none, Cond.methodLink RX8 201 yX8_hangingNow, Cond.instanceMethod yX8_hangingNow, Cond.selects RX8 yX8_hangingNow yX8_hangingNow, Cond.code yX8_hangingNow cX8_hangingNow 6 (some .int), Cond.constant RX8 191 (268435456), Cond.methodLink RX8 181 yX8_ways, Cond.instanceMethod yX8_ways, Cond.selects RX8 yX8_ways yX8_ways, Cond.code yX8_ways cX8_ways 3 (some .int), Cond.methodLink RX8 192 yX8_hangBy, Cond.instanceMethod yX8_hangBy, Cond.selects RX8 yX8_hangBy yX8_hangBy, Cond.code yX8_hangBy cX8_hangBy 8 none, Cond.methodLink RX8 195 yX8_takesBy, Cond.instanceMethod yX8_takesBy, Cond.selects RX8 yX8_takesBy yX8_takesBy, Cond.code yX8_takesBy cX8_takesBy 3 (some .int), Cond.methodLink RX8 185 yX8_takesOn, Cond.instanceMethod yX8_takesOn, Cond.selects RX8 yX8_takesOn yX8_takesOn]
def wsX8_digest_r5 : List Cond := [Cond.code yX8_takesOn cX8_takesOn 3 (some .int), Cond.methodLink RX8 198 yX8_exchanges, Cond.instanceMethod yX8_exchanges, Cond.selects RX8 yX8_exchanges yX8_exchanges, Cond.code yX8_exchanges cX8_exchanges 5 (some .int), Cond.methodLink RX8 188 yX8_hookOf, Cond.instanceMethod yX8_hookOf, Cond.selects RX8 yX8_hookOf yX8_hookOf, Cond.code yX8_hookOf cX8_hookOf 5 (some .int), Cond.methodLink RX8 208 yX8_hungNow, Cond.instanceMethod yX8_hungNow, Cond.selects RX8 yX8_hungNow yX8_hungNow, Cond.code yX8_hungNow cX8_hungNow 3 (some .int), Cond.methodLink RX8 204 yX8_couldHang, Cond.instanceMethod yX8_couldHang, Cond.selects RX8 yX8_couldHang yX8_couldHang, Cond.code yX8_couldHang cX8_couldHang 3 (some .boolean), Cond.fieldLink RX8 127 "ThrownSacksModel" "found" "I", Cond.fieldLink RX8 43 "ThrownSacksModel" "foundIn" "[I", Cond.fieldLink RX8 40 "ThrownSacksModel" "foundTown" "[I", Cond.methodLink RX8 211 yX8_whereNow, Cond.instanceMethod yX8_whereNow, Cond.selects RX8 yX8_whereNow yX8_whereNow, Cond.code yX8_whereNow cX8_whereNow 4 (some .int)]
def wsX8_digest_r6 : List Cond := [Cond.methodLink RX8 266 yX8_howMany, Cond.instanceMethod yX8_howMany, Cond.selects RX8 yX8_howMany yX8_howMany, Cond.code yX8_howMany cX8_howMany 2 (some .int), Cond.fieldLink RX8 121 "ThrownSacksModel" "seconds" "I", Cond.fieldLink RX8 124 "ThrownSacksModel" "harmed" "I", Cond.fieldLink RX8 115 "ThrownSacksModel" "floors" "I", Cond.methodLink RX8 262 yX8_inSacks, Cond.instanceMethod yX8_inSacks, Cond.selects RX8 yX8_inSacks yX8_inSacks, Cond.code yX8_inSacks cX8_inSacks 4 (some .int)]
def wsX8_digest : List Cond := .code yX8_digest cX8_digest 3 (some .long) :: ((wsX8_digest_r1 ++ (wsX8_digest_r2 ++ (wsX8_digest_r3 ++ (wsX8_digest_r4 ++ (wsX8_digest_r5 ++ wsX8_digest_r6))))) ++ wsX80)
def wsJ9_max_7cf53 : List Cond := .code yJ9_max_7cf53 cJ9_max_7cf53 2 (some .int) :: ([])
def wsJ9_min_7cf53 : List Cond := .code yJ9_min_7cf53 cJ9_min_7cf53 2 (some .int) :: ([])
def wsL_law_r1 : List Cond := [Cond.classLink RL 7 RX7, Cond.instantiable RX7 9, Cond.initialized RX7, Cond.classLink RL 10 RX8, Cond.instantiable RX8 42, Cond.initialized RX8, Cond.methodLink RL 9 yX7_init, Cond.instanceMethod yX7_init, Cond.code yX7_init cX7_init 1 none, Cond.methodLink RX7 1 objectInit, Cond.instanceMethod objectInit, Cond.code objectInit ⟨#[0xb1]⟩ 1 none, Cond.classLink RX7 7 RX1, Cond.instantiable RX1 2, Cond.initialized RX1, Cond.fieldLink RX7 10 "ThrownSacks" "page" "LThrownSacks$Page;", Cond.classLink RX7 16 RX2, Cond.instantiable RX2 4, Cond.initialized RX2, Cond.fieldLink RX7 19 "ThrownSacks" "plan" "LThrownSacks$Plan;", Cond.classLink RX7 23 RX4, Cond.instantiable RX4 8, Cond.initialized RX4, Cond.fieldLink RX7 26 "ThrownSacks" "now" "LThrownSacks$Standing;"]
def wsL_law_r2 : List Cond := [Cond.fieldLink RX7 30 "ThrownSacks" "kept" "LThrownSacks$Standing;", Cond.classLink RX7 33 RX0, Cond.instantiable RX0 4, Cond.initialized RX0, Cond.fieldLink RX7 36 "ThrownSacks" "best" "LThrownSacks$Best;", Cond.classLink RX7 40 RX6, Cond.instantiable RX6 5, Cond.initialized RX6, Cond.fieldLink RX7 43 "ThrownSacks" "ways" "LThrownSacks$Ways;", Cond.classLink RX7 47 RX5, Cond.instantiable RX5 4, Cond.initialized RX5, Cond.fieldLink RX7 50 "ThrownSacks" "trial" "LThrownSacks$Trial;", Cond.instanceMethod yX1_init, Cond.code yX1_init cX1_init 1 none, Cond.methodLink RX1 3 objectInit, Cond.arrayClass .int, Cond.fieldLink RX1 9 "ThrownSacks$Page" "codes" "[I", Cond.instanceMethod yX2_init, Cond.code yX2_init cX2_init 1 none, Cond.methodLink RX2 3 objectInit, Cond.fieldLink RX2 9 "ThrownSacks$Plan" "yards" "[I", Cond.fieldLink RX2 15 "ThrownSacks$Plan" "room" "[I", Cond.fieldLink RX2 18 "ThrownSacks$Plan" "often" "[I"]
def wsL_law_r3 : List Cond := [Cond.methodLink RX7 25 yX4_init, Cond.instanceMethod yX4_init, Cond.code yX4_init cX4_init 2 none, Cond.methodLink RX4 3 objectInit, Cond.fieldLink RX4 9 "ThrownSacks$Standing" "towns" "[I", Cond.classLink RX4 15 RX3, Cond.fieldLink RX4 17 "ThrownSacks$Standing" "sacks" "[LThrownSacks$Row;", Cond.instantiable RX3 4, Cond.initialized RX3, Cond.fieldLink RX4 22 "ThrownSacks$Standing" "belt" "LThrownSacks$Row;", Cond.fieldLink RX4 26 "ThrownSacks$Standing" "foundTowns" "[I", Cond.fieldLink RX4 29 "ThrownSacks$Standing" "foundIn" "[I", Cond.instanceMethod yX3_init, Cond.code yX3_init cX3_init 1 none, Cond.methodLink RX3 3 objectInit, Cond.fieldLink RX3 9 "ThrownSacks$Row" "kinds" "[I", Cond.fieldLink RX3 15 "ThrownSacks$Row" "towns" "[I", Cond.arrayClass .boolean, Cond.fieldLink RX3 18 "ThrownSacks$Row" "harms" "[Z", Cond.instanceMethod yX0_init, Cond.code yX0_init cX0_init 1 none, Cond.methodLink RX0 3 objectInit, Cond.fieldLink RX0 9 "ThrownSacks$Best" "towns" "[I", Cond.fieldLink RX0 15 "ThrownSacks$Best" "less" "[I"]
def wsL_law_r4 : List Cond := [Cond.fieldLink RX0 18 "ThrownSacks$Best" "rest" "[I", Cond.instanceMethod yX6_init, Cond.code yX6_init cX6_init 1 none, Cond.methodLink RX6 3 objectInit, Cond.fieldLink RX6 9 "ThrownSacks$Ways" "towns" "[I", Cond.fieldLink RX6 15 "ThrownSacks$Ways" "beyond" "[I", Cond.fieldLink RX6 18 "ThrownSacks$Ways" "places" "[I", Cond.instanceMethod yX5_init, Cond.code yX5_init cX5_init 1 none, Cond.methodLink RX5 3 objectInit, Cond.fieldLink RX5 9 "ThrownSacks$Trial" "held" "[I", Cond.methodLink RL 12 yX8_init, Cond.instanceMethod yX8_init, Cond.code yX8_init cX8_init 1 none, Cond.methodLink RX8 1 objectInit, Cond.fieldLink RX8 7 "ThrownSacksModel" "yardsOf" "[I", Cond.fieldLink RX8 13 "ThrownSacksModel" "roomOf" "[I", Cond.fieldLink RX8 16 "ThrownSacksModel" "oftenOf" "[I", Cond.fieldLink RX8 19 "ThrownSacksModel" "hangsOn" "[I", Cond.fieldLink RX8 22 "ThrownSacksModel" "manyIn" "[I", Cond.fieldLink RX8 25 "ThrownSacksModel" "wrongIn" "[I", Cond.fieldLink RX8 28 "ThrownSacksModel" "glassIn" "[I", Cond.fieldLink RX8 31 "ThrownSacksModel" "wholeIn" "[I", Cond.fieldLink RX8 34 "ThrownSacksModel" "beltKind" "[I"]
def wsL_law_r5 : List Cond := [Cond.fieldLink RX8 37 "ThrownSacksModel" "beltTown" "[I", Cond.fieldLink RX8 40 "ThrownSacksModel" "foundTown" "[I", Cond.fieldLink RX8 43 "ThrownSacksModel" "foundIn" "[I", Cond.arrayClass .byte, Cond.fieldLink RX8 46 "ThrownSacksModel" "page" "[B", Cond.fieldLink RX8 50 "ThrownSacksModel" "keptHangs" "[I", Cond.fieldLink RX8 53 "ThrownSacksModel" "keptMany" "[I", Cond.fieldLink RX8 56 "ThrownSacksModel" "keptWrong" "[I", Cond.fieldLink RX8 59 "ThrownSacksModel" "keptGlass" "[I", Cond.fieldLink RX8 62 "ThrownSacksModel" "keptWhole" "[I", Cond.fieldLink RX8 65 "ThrownSacksModel" "keptKind" "[I", Cond.fieldLink RX8 68 "ThrownSacksModel" "keptTown" "[I", Cond.fieldLink RX8 71 "ThrownSacksModel" "keptFoundTown" "[I", Cond.fieldLink RX8 74 "ThrownSacksModel" "keptFoundIn" "[I", Cond.methodLink RL 13 yX7_letter, Cond.instanceMethod yX7_letter, Cond.selects RX7 yX7_letter yX7_letter, Cond.code yX7_letter cX7_letter 2 (some .int), Cond.fieldLink RX7 54 "ThrownSacks$Page" "size" "I", Cond.methodLink RX7 58 yX1_add, Cond.instanceMethod yX1_add, Cond.selects RX1 yX1_add yX1_add, Cond.code yX1_add cX1_add 2 none, Cond.fieldLink RX1 15 "ThrownSacks$Page" "size" "I"]
def wsL_law_r6 : List Cond := [Cond.methodLink RL 17 yX8_letter, Cond.instanceMethod yX8_letter, Cond.selects RX8 yX8_letter yX8_letter, Cond.code yX8_letter cX8_letter 2 (some .int), Cond.fieldLink RX8 81 "ThrownSacksModel" "pageLength" "I", Cond.methodLink RX8 77 yX8_within, Cond.static yX8_within, Cond.code yX8_within cX8_within 3 (some .boolean), Cond.methodLink RL 18 yX7_blank, Cond.instanceMethod yX7_blank, Cond.selects RX7 yX7_blank yX7_blank, Cond.code yX7_blank cX7_blank 2 (some .int), Cond.methodLink RL 22 yX8_blank, Cond.instanceMethod yX8_blank, Cond.selects RX8 yX8_blank yX8_blank, Cond.code yX8_blank cX8_blank 2 (some .int), Cond.methodLink RL 23 yX7_fault, Cond.instanceMethod yX7_fault, Cond.selects RX7 yX7_fault yX7_fault, Cond.code yX7_fault cX7_fault 1 (some .int), Cond.methodLink RX7 62 yX1_firstWrong, Cond.instanceMethod yX1_firstWrong, Cond.selects RX1 yX1_firstWrong yX1_firstWrong, Cond.code yX1_firstWrong cX1_firstWrong 4 (some .int)]
def wsL_law_r7 : List Cond := [Cond.methodLink RX1 19 yX1_codeAt, Cond.instanceMethod yX1_codeAt, Cond.selects RX1 yX1_codeAt yX1_codeAt, Cond.code yX1_codeAt cX1_codeAt 2 (some .int), Cond.methodLink RX1 30 yX1_canTellOfHooks, Cond.static yX1_canTellOfHooks, Cond.code yX1_canTellOfHooks cX1_canTellOfHooks 3 (some .boolean), Cond.methodLink RL 26 yX8_fault, Cond.instanceMethod yX8_fault, Cond.selects RX8 yX8_fault yX8_fault, Cond.code yX8_fault cX8_fault 1 (some .int), Cond.fieldLink RX8 92 "ThrownSacksModel" "faultAt" "I", Cond.methodLink RX8 106 yX8_read, Cond.instanceMethod yX8_read, Cond.selects RX8 yX8_read yX8_read, Cond.code yX8_read cX8_read 3 none, Cond.fieldLink RX8 85 "ThrownSacksModel" "newMany" "I", Cond.fieldLink RX8 88 "ThrownSacksModel" "isWhole" "Z", Cond.methodLink RX8 95 yX8_isFigure, Cond.instanceMethod yX8_isFigure, Cond.selects RX8 yX8_isFigure yX8_isFigure, Cond.code yX8_isFigure cX8_isFigure 4 (some .boolean), Cond.methodLink RX8 98 yX8_isSign, Cond.instanceMethod yX8_isSign]
def wsL_law_r8 : List Cond := [Cond.selects RX8 yX8_isSign yX8_isSign, Cond.code yX8_isSign cX8_isSign 3 (some .boolean), Cond.methodLink RX8 102 yX8_readOften, Cond.instanceMethod yX8_readOften, Cond.selects RX8 yX8_readOften yX8_readOften, Cond.code yX8_readOften cX8_readOften 3 none, Cond.methodLink RL 27 yX7_floor, Cond.instanceMethod yX7_floor, Cond.selects RX7 yX7_floor yX7_floor, Cond.code yX7_floor cX7_floor 1 (some .int), Cond.fieldLink RX7 81 "ThrownSacks$Ways" "counted" "Z", Cond.fieldLink RX7 85 "ThrownSacks" "imageKept" "Z", Cond.fieldLink RX7 88 "ThrownSacks" "floorsRead" "I", Cond.fieldLink RX7 91 "ThrownSacks$Plan" "hooks" "I", Cond.methodLink RX7 66 yX1_isFloor, Cond.instanceMethod yX1_isFloor, Cond.selects RX1 yX1_isFloor yX1_isFloor, Cond.code yX1_isFloor cX1_isFloor 2 (some .boolean), Cond.methodLink RX1 23 yX1_hooksTold, Cond.instanceMethod yX1_hooksTold, Cond.selects RX1 yX1_hooksTold yX1_hooksTold, Cond.code yX1_hooksTold cX1_hooksTold 2 (some .int), Cond.methodLink RX1 27 yX1_firstWrong, Cond.methodLink RX7 70 yX2_read]
def wsL_law_r9 : List Cond := [Cond.instanceMethod yX2_read, Cond.selects RX2 yX2_read yX2_read, Cond.code yX2_read cX2_read 3 none, Cond.methodLink RX2 27 Lib.Math.min.name, Cond.static Lib.Math.min.name, Cond.initialized "java/lang/Math", Cond.code Lib.Math.min.name Lib.Math.min.code 2 (some .int), Cond.fieldLink RX2 33 "ThrownSacks$Plan" "hooks" "I", Cond.methodLink RX2 21 yX1_hooksTold, Cond.methodLink RX2 37 yX1_digitAt, Cond.instanceMethod yX1_digitAt, Cond.selects RX1 yX1_digitAt yX1_digitAt, Cond.code yX1_digitAt cX1_digitAt 2 (some .int), Cond.methodLink RX7 74 yX4_start, Cond.instanceMethod yX4_start, Cond.selects RX4 yX4_start yX4_start, Cond.code yX4_start cX4_start 2 none, Cond.fieldLink RX4 32 "ThrownSacks$Row" "size" "I", Cond.fieldLink RX4 36 "ThrownSacks$Standing" "found" "I", Cond.fieldLink RX4 39 "ThrownSacks$Standing" "seconds" "I", Cond.fieldLink RX4 42 "ThrownSacks$Standing" "harmed" "I", Cond.methodLink RX7 77 yX0_seek, Cond.instanceMethod yX0_seek, Cond.selects RX0 yX0_seek yX0_seek]
def wsL_law_r10 : List Cond := [Cond.code yX0_seek cX0_seek 5 none, Cond.fieldLink RX0 21 "ThrownSacks$Plan" "hooks" "I", Cond.fieldLink RX0 27 "ThrownSacks$Plan" "yards" "[I", Cond.methodLink RX0 38 Lib.Math.min.name, Cond.fieldLink RX0 52 "ThrownSacks$Best" "total" "I", Cond.static yX7_costOf, Cond.code yX7_costOf cX7_costOf 7 (some .int), Cond.methodLink RX7 264 yX7_tenthsOf, Cond.static yX7_tenthsOf, Cond.code yX7_tenthsOf cX7_tenthsOf 6 (some .int), Cond.methodLink RX7 271 Lib.Math.min.name, Cond.methodLink RX7 276 Lib.Math.max.name, Cond.static Lib.Math.max.name, Cond.code Lib.Math.max.name Lib.Math.max.code 2 (some .int), Cond.methodLink RX7 141 yX7_gripOf, Cond.static yX7_gripOf, Cond.code yX7_gripOf cX7_gripOf 1 (some .int), Cond.fieldLink RX7 268 "ThrownSacks" "GRIPS" "[I", Cond.methodLink RX7 173 yX7_carryTenths, Cond.static yX7_carryTenths, Cond.code yX7_carryTenths cX7_carryTenths 1 (some .int), Cond.methodLink RX7 162 yX7_carrySeconds, Cond.static yX7_carrySeconds, Cond.code yX7_carrySeconds cX7_carrySeconds 1 (some .int)]
def wsL_law_r11 : List Cond := [Cond.methodLink RX0 44 yX0_bestTown, Cond.instanceMethod yX0_bestTown, Cond.selects RX0 yX0_bestTown yX0_bestTown, Cond.code yX0_bestTown cX0_bestTown 7 (some .int), Cond.methodLink RX0 48 yX0_withTown, Cond.instanceMethod yX0_withTown, Cond.selects RX0 yX0_withTown yX0_withTown, Cond.code yX0_withTown cX0_withTown 6 (some .int), Cond.methodLink RX0 55 yJ6_bitCount_0f7a4, Cond.static yJ6_bitCount_0f7a4, Cond.initialized RJ6, Cond.code yJ6_bitCount_0f7a4 cJ6_bitCount_0f7a4 1 (some .int), Cond.constant RJ6 265 (1431655765), Cond.constant RJ6 266 (858993459), Cond.constant RJ6 267 (252645135), Cond.methodLink RX0 60 yX2_oftenOf, Cond.instanceMethod yX2_oftenOf, Cond.selects RX2 yX2_oftenOf yX2_oftenOf, Cond.code yX2_oftenOf cX2_oftenOf 2 (some .int), Cond.methodLink RL 30 yX8_floor, Cond.instanceMethod yX8_floor, Cond.selects RX8 yX8_floor yX8_floor, Cond.code yX8_floor cX8_floor 2 (some .int), Cond.fieldLink RX8 109 "ThrownSacksModel" "hooks" "I"]
def wsL_law_r12 : List Cond := [Cond.fieldLink RX8 115 "ThrownSacksModel" "floors" "I", Cond.fieldLink RX8 118 "ThrownSacksModel" "onBelt" "I", Cond.fieldLink RX8 121 "ThrownSacksModel" "seconds" "I", Cond.fieldLink RX8 124 "ThrownSacksModel" "harmed" "I", Cond.fieldLink RX8 127 "ThrownSacksModel" "found" "I", Cond.methodLink RX8 112 yX8_empty, Cond.instanceMethod yX8_empty, Cond.selects RX8 yX8_empty yX8_empty, Cond.code yX8_empty cX8_empty 2 none, Cond.methodLink RL 31 yX7_hook, Cond.instanceMethod yX7_hook, Cond.selects RX7 yX7_hook yX7_hook, Cond.code yX7_hook cX7_hook 5 (some .int), Cond.fieldLink RX7 98 "ThrownSacks$Standing" "sacks" "[LThrownSacks$Row;", Cond.fieldLink RX7 102 "ThrownSacks$Standing" "towns" "[I", Cond.fieldLink RX7 106 "ThrownSacks$Plan" "yards" "[I", Cond.fieldLink RX7 109 "ThrownSacks$Plan" "room" "[I", Cond.fieldLink RX7 112 "ThrownSacks$Row" "size" "I", Cond.methodLink RX7 94 yX7_isKnown, Cond.instanceMethod yX7_isKnown, Cond.selects RX7 yX7_isKnown yX7_isKnown, Cond.code yX7_isKnown cX7_isKnown 2 (some .boolean), Cond.methodLink RX7 115 yX3_notFor, Cond.instanceMethod yX3_notFor]
def wsL_law_r13 : List Cond := [Cond.selects RX3 yX3_notFor yX3_notFor, Cond.code yX3_notFor cX3_notFor 4 (some .int), Cond.fieldLink RX3 22 "ThrownSacks$Row" "size" "I", Cond.methodLink RX7 119 yX3_ofKind, Cond.instanceMethod yX3_ofKind, Cond.selects RX3 yX3_ofKind yX3_ofKind, Cond.code yX3_ofKind cX3_ofKind 4 (some .int), Cond.methodLink RX7 122 yX2_oftenOf, Cond.methodLink RL 35 yX8_hook, Cond.instanceMethod yX8_hook, Cond.selects RX8 yX8_hook yX8_hook, Cond.code yX8_hook cX8_hook 3 (some .int), Cond.methodLink RX8 130 yX8_isHook, Cond.instanceMethod yX8_isHook, Cond.selects RX8 yX8_isHook yX8_isHook, Cond.code yX8_isHook cX8_isHook 2 (some .boolean), Cond.methodLink RX8 134 yX8_hookNow, Cond.instanceMethod yX8_hookNow, Cond.selects RX8 yX8_hookNow yX8_hookNow, Cond.code yX8_hookNow cX8_hookNow 4 (some .int), Cond.methodLink RL 36 yX7_parcel, Cond.instanceMethod yX7_parcel, Cond.selects RX7 yX7_parcel yX7_parcel, Cond.code yX7_parcel cX7_parcel 3 (some .int)]
def wsL_law_r14 : List Cond := [Cond.fieldLink RX7 128 "ThrownSacks$Standing" "belt" "LThrownSacks$Row;", Cond.methodLink RX7 125 yX7_isKind, Cond.static yX7_isKind, Cond.code yX7_isKind cX7_isKind 1 (some .boolean), Cond.methodLink RX7 132 yX3_add, Cond.instanceMethod yX3_add, Cond.selects RX3 yX3_add yX3_add, Cond.code yX3_add cX3_add 4 none, Cond.methodLink RL 39 yX8_parcel, Cond.instanceMethod yX8_parcel, Cond.selects RX8 yX8_parcel yX8_parcel, Cond.code yX8_parcel cX8_parcel 3 (some .int), Cond.methodLink RL 40 yX7_belt, Cond.instanceMethod yX7_belt, Cond.selects RX7 yX7_belt yX7_belt, Cond.code yX7_belt cX7_belt 3 (some .int), Cond.methodLink RX7 135 yX3_kindAt, Cond.instanceMethod yX3_kindAt, Cond.selects RX3 yX3_kindAt yX3_kindAt, Cond.code yX3_kindAt cX3_kindAt 2 (some .int), Cond.methodLink RX7 138 yX3_townAt, Cond.instanceMethod yX3_townAt, Cond.selects RX3 yX3_townAt yX3_townAt, Cond.code yX3_townAt cX3_townAt 2 (some .int)]
def wsL_law_r15 : List Cond := [Cond.methodLink RL 43 yX8_belt, Cond.instanceMethod yX8_belt, Cond.selects RX8 yX8_belt yX8_belt, Cond.code yX8_belt cX8_belt 3 (some .int), Cond.methodLink RX8 142 yX8_isPlace, Cond.instanceMethod yX8_isPlace, Cond.selects RX8 yX8_isPlace yX8_isPlace, Cond.code yX8_isPlace cX8_isPlace 2 (some .boolean), Cond.methodLink RX8 145 yX8_beltNow, Cond.instanceMethod yX8_beltNow, Cond.selects RX8 yX8_beltNow yX8_beltNow, Cond.code yX8_beltNow cX8_beltNow 3 (some .int), Cond.methodLink RX8 138 yX8_gripOf, Cond.static yX8_gripOf, Cond.code yX8_gripOf cX8_gripOf 1 (some .int), Cond.methodLink RL 44 yX7_as, Cond.instanceMethod yX7_as, Cond.selects RX7 yX7_as yX7_as, Cond.code yX7_as cX7_as 3 (some .int), Cond.methodLink RX7 144 yX7_isA, Cond.static yX7_isA, Cond.code yX7_isA cX7_isA 2 (some .boolean), Cond.methodLink RL 47 yX8_as, Cond.instanceMethod yX8_as]
def wsL_law_r16 : List Cond := [Cond.selects RX8 yX8_as yX8_as, Cond.code yX8_as cX8_as 4 (some .int), Cond.methodLink RL 48 yX7_toss, Cond.instanceMethod yX7_toss, Cond.selects RX7 yX7_toss yX7_toss, Cond.code yX7_toss cX7_toss 4 (some .int), Cond.fieldLink RX7 159 "ThrownSacks$Standing" "seconds" "I", Cond.methodLink RX7 148 yX7_isFull, Cond.instanceMethod yX7_isFull, Cond.selects RX7 yX7_isFull yX7_isFull, Cond.code yX7_isFull cX7_isFull 2 (some .boolean), Cond.methodLink RX7 151 yX7_tenthsAt, Cond.instanceMethod yX7_tenthsAt, Cond.selects RX7 yX7_tenthsAt yX7_tenthsAt, Cond.code yX7_tenthsAt cX7_tenthsAt 4 (some .int), Cond.methodLink RX7 155 yX7_nextTo, Cond.static yX7_nextTo, Cond.code yX7_nextTo cX7_nextTo 2 (some .int), Cond.methodLink RX7 165 yX4_putFirst, Cond.instanceMethod yX4_putFirst, Cond.selects RX4 yX4_putFirst yX4_putFirst, Cond.code yX4_putFirst cX4_putFirst 5 none, Cond.methodLink RX4 49 yX3_kindAt, Cond.methodLink RX4 53 yX3_harmGlass]
def wsL_law_r17 : List Cond := [Cond.instanceMethod yX3_harmGlass, Cond.selects RX3 yX3_harmGlass yX3_harmGlass, Cond.code yX3_harmGlass cX3_harmGlass 3 (some .int), Cond.methodLink RX4 57 yX3_townAt, Cond.methodLink RX4 60 yX3_add, Cond.methodLink RX4 64 yX3_dropFirst, Cond.instanceMethod yX3_dropFirst, Cond.selects RX3 yX3_dropFirst yX3_dropFirst, Cond.code yX3_dropFirst cX3_dropFirst 2 none, Cond.methodLink RX3 26 Lib.Math.max.name, Cond.methodLink RL 51 yX8_toss, Cond.instanceMethod yX8_toss, Cond.selects RX8 yX8_toss yX8_toss, Cond.code yX8_toss cX8_toss 4 (some .int), Cond.methodLink RX8 154 yX8_isFull, Cond.instanceMethod yX8_isFull, Cond.selects RX8 yX8_isFull yX8_isFull, Cond.code yX8_isFull cX8_isFull 2 (some .boolean), Cond.methodLink RX8 160 yX8_tenthsOf, Cond.instanceMethod yX8_tenthsOf, Cond.selects RX8 yX8_tenthsOf yX8_tenthsOf, Cond.code yX8_tenthsOf cX8_tenthsOf 6 (some .int), Cond.methodLink RX8 148 yX8_tenthsIn, Cond.instanceMethod yX8_tenthsIn]
def wsL_law_r18 : List Cond := [Cond.selects RX8 yX8_tenthsIn yX8_tenthsIn, Cond.code yX8_tenthsIn cX8_tenthsIn 4 (some .int), Cond.methodLink RX8 151 yX8_nextOf, Cond.instanceMethod yX8_nextOf, Cond.selects RX8 yX8_nextOf yX8_nextOf, Cond.code yX8_nextOf cX8_nextOf 2 (some .int), Cond.methodLink RX8 157 yX8_tenthsNext, Cond.instanceMethod yX8_tenthsNext, Cond.selects RX8 yX8_tenthsNext yX8_tenthsNext, Cond.code yX8_tenthsNext cX8_tenthsNext 3 (some .int), Cond.methodLink RX8 164 yX8_walk, Cond.instanceMethod yX8_walk, Cond.selects RX8 yX8_walk yX8_walk, Cond.code yX8_walk cX8_walk 2 (some .int), Cond.methodLink RX8 167 yX8_comes, Cond.instanceMethod yX8_comes, Cond.selects RX8 yX8_comes yX8_comes, Cond.code yX8_comes cX8_comes 6 none, Cond.methodLink RL 52 yX7_carry, Cond.instanceMethod yX7_carry, Cond.selects RX7 yX7_carry yX7_carry, Cond.code yX7_carry cX7_carry 2 (some .int), Cond.methodLink RL 55 yX8_carry, Cond.instanceMethod yX8_carry]
def wsL_law_r19 : List Cond := [Cond.selects RX8 yX8_carry yX8_carry, Cond.code yX8_carry cX8_carry 2 (some .int), Cond.methodLink RL 56 yX7_change, Cond.instanceMethod yX7_change, Cond.selects RX7 yX7_change yX7_change, Cond.code yX7_change cX7_change 3 (some .int), Cond.methodLink RL 59 yX8_change, Cond.instanceMethod yX8_change, Cond.selects RX8 yX8_change yX8_change, Cond.code yX8_change cX8_change 3 (some .int), Cond.methodLink RL 60 yX7_exchange, Cond.instanceMethod yX7_exchange, Cond.selects RX7 yX7_exchange yX7_exchange, Cond.code yX7_exchange cX7_exchange 3 (some .int), Cond.methodLink RX7 169 yX4_swap, Cond.instanceMethod yX4_swap, Cond.selects RX4 yX4_swap yX4_swap, Cond.code yX4_swap cX4_swap 5 none, Cond.methodLink RL 63 yX8_exchange, Cond.instanceMethod yX8_exchange, Cond.selects RX8 yX8_exchange yX8_exchange, Cond.code yX8_exchange cX8_exchange 5 (some .int), Cond.methodLink RL 64 yX7_odds, Cond.instanceMethod yX7_odds]
def wsL_law_r20 : List Cond := [Cond.selects RX7 yX7_odds yX7_odds, Cond.code yX7_odds cX7_odds 6 (some .int), Cond.methodLink RX7 176 yX7_costOf, Cond.methodLink RL 68 yX8_odds, Cond.instanceMethod yX8_odds, Cond.selects RX8 yX8_odds yX8_odds, Cond.code yX8_odds cX8_odds 4 (some .int), Cond.methodLink RX8 178 yX8_oddsNow, Cond.instanceMethod yX8_oddsNow, Cond.selects RX8 yX8_oddsNow yX8_oddsNow, Cond.code yX8_oddsNow cX8_oddsNow 4 (some .int), Cond.methodLink RX8 175 yX8_costNow, Cond.instanceMethod yX8_costNow, Cond.selects RX8 yX8_costNow yX8_costNow, Cond.code yX8_costNow cX8_costNow 3 (some .int), Cond.methodLink RX8 171 yX8_costBy, Cond.instanceMethod yX8_costBy, Cond.selects RX8 yX8_costBy yX8_costBy, Cond.code yX8_costBy cX8_costBy 6 (some .int), Cond.methodLink RL 69 yX7_hanging, Cond.instanceMethod yX7_hanging, Cond.selects RX7 yX7_hanging yX7_hanging, Cond.code yX7_hanging cX7_hanging 3 (some .int), Cond.fieldLink RX7 180 "ThrownSacks$Best" "total" "I"]
def wsL_law_r21 : List Cond := [Cond.fieldLink RX7 187 "ThrownSacks$Best" "towns" "[I", Cond.methodLink RX7 183 yX0_exchangesFrom, Cond.instanceMethod yX0_exchangesFrom, Cond.selects RX0 yX0_exchangesFrom yX0_exchangesFrom, Cond.code yX0_exchangesFrom cX0_exchangesFrom 8 (some .int), Cond.methodLink RX0 63 yX4_hookOf, Cond.instanceMethod yX4_hookOf, Cond.selects RX4 yX4_hookOf yX4_hookOf, Cond.code yX4_hookOf cX4_hookOf 3 (some .int), Cond.methodLink RL 72 yX8_hanging, Cond.instanceMethod yX8_hanging, Cond.selects RX8 yX8_hanging yX8_hanging, Cond.code yX8_hanging cX8_hanging 2 (some .int), Cond.methodLink RX8 201 yX8_hangingNow, Cond.instanceMethod yX8_hangingNow, Cond.selects RX8 yX8_hangingNow yX8_hangingNow, Cond.code yX8_hangingNow cX8_hangingNow 6 (some .int), Cond.constant RX8 191 (268435456), Cond.methodLink RX8 181 yX8_ways, Cond.instanceMethod yX8_ways, Cond.selects RX8 yX8_ways yX8_ways, Cond.code yX8_ways cX8_ways 3 (some .int), Cond.methodLink RX8 192 yX8_hangBy, Cond.instanceMethod yX8_hangBy]
def wsL_law_r22 : List Cond := [Cond.selects RX8 yX8_hangBy yX8_hangBy, Cond.code yX8_hangBy cX8_hangBy 8 none, Cond.methodLink RX8 195 yX8_takesBy, Cond.instanceMethod yX8_takesBy, Cond.selects RX8 yX8_takesBy yX8_takesBy, Cond.code yX8_takesBy cX8_takesBy 3 (some .int), Cond.methodLink RX8 185 yX8_takesOn, Cond.instanceMethod yX8_takesOn, Cond.selects RX8 yX8_takesOn yX8_takesOn, Cond.code yX8_takesOn cX8_takesOn 3 (some .int), Cond.methodLink RX8 198 yX8_exchanges, Cond.instanceMethod yX8_exchanges, Cond.selects RX8 yX8_exchanges yX8_exchanges, Cond.code yX8_exchanges cX8_exchanges 5 (some .int), Cond.methodLink RX8 188 yX8_hookOf, Cond.instanceMethod yX8_hookOf, Cond.selects RX8 yX8_hookOf yX8_hookOf, Cond.code yX8_hookOf cX8_hookOf 5 (some .int), Cond.methodLink RL 73 yX7_found, Cond.instanceMethod yX7_found, Cond.selects RX7 yX7_found yX7_found, Cond.code yX7_found cX7_found 3 (some .int), Cond.fieldLink RX7 188 "ThrownSacks$Standing" "found" "I", Cond.methodLink RX7 191 yX4_addFound]
def wsL_law_r23 : List Cond := [Cond.instanceMethod yX4_addFound, Cond.selects RX4 yX4_addFound yX4_addFound, Cond.code yX4_addFound cX4_addFound 3 none, Cond.methodLink RL 76 yX8_found, Cond.instanceMethod yX8_found, Cond.selects RX8 yX8_found yX8_found, Cond.code yX8_found cX8_found 3 (some .int), Cond.methodLink RL 77 yX7_forget, Cond.instanceMethod yX7_forget, Cond.selects RX7 yX7_forget yX7_forget, Cond.code yX7_forget cX7_forget 2 (some .int), Cond.methodLink RL 80 yX8_forget, Cond.instanceMethod yX8_forget, Cond.selects RX8 yX8_forget yX8_forget, Cond.code yX8_forget cX8_forget 2 (some .int), Cond.methodLink RL 81 yX7_hung, Cond.instanceMethod yX7_hung, Cond.selects RX7 yX7_hung yX7_hung, Cond.code yX7_hung cX7_hung 1 (some .int), Cond.fieldLink RX7 197 "ThrownSacks$Ways" "many" "I", Cond.methodLink RX7 194 yX6_seek, Cond.instanceMethod yX6_seek, Cond.selects RX6 yX6_seek yX6_seek, Cond.code yX6_seek cX6_seek 3 none]
def wsL_law_r24 : List Cond := [Cond.fieldLink RX6 21 "ThrownSacks$Ways" "counted" "Z", Cond.fieldLink RX6 25 "ThrownSacks$Ways" "many" "I", Cond.methodLink RX6 39 Lib.Math.min.name, Cond.methodLink RX6 29 yJ7_fill_53178, Cond.static yJ7_fill_53178, Cond.initialized RJ7, Cond.code yJ7_fill_53178 cJ7_fill_53178 4 none, Cond.methodLink RX6 35 yX6_askAllFound, Cond.instanceMethod yX6_askAllFound, Cond.selects RX6 yX6_askAllFound yX6_askAllFound, Cond.code yX6_askAllFound cX6_askAllFound 5 (some .boolean), Cond.fieldLink RX6 49 "ThrownSacks$Standing" "found" "I", Cond.fieldLink RX6 54 "ThrownSacks$Standing" "foundTowns" "[I", Cond.fieldLink RX6 57 "ThrownSacks$Standing" "foundIn" "[I", Cond.methodLink RX6 45 yX6_hangFrom, Cond.static yX6_hangFrom, Cond.code yX6_hangFrom cX6_hangFrom 5 none, Cond.methodLink RX6 60 yX6_keep, Cond.instanceMethod yX6_keep, Cond.selects RX6 yX6_keep yX6_keep, Cond.code yX6_keep cX6_keep 3 none, Cond.methodLink RX6 64 yX6_canHang, Cond.instanceMethod yX6_canHang, Cond.selects RX6 yX6_canHang yX6_canHang]
def wsL_law_r25 : List Cond := [Cond.code yX6_canHang cX6_canHang 5 (some .boolean), Cond.methodLink RL 84 yX8_hung, Cond.instanceMethod yX8_hung, Cond.selects RX8 yX8_hung yX8_hung, Cond.code yX8_hung cX8_hung 1 (some .int), Cond.methodLink RX8 208 yX8_hungNow, Cond.instanceMethod yX8_hungNow, Cond.selects RX8 yX8_hungNow yX8_hungNow, Cond.code yX8_hungNow cX8_hungNow 3 (some .int), Cond.methodLink RX8 204 yX8_couldHang, Cond.instanceMethod yX8_couldHang, Cond.selects RX8 yX8_couldHang yX8_couldHang, Cond.code yX8_couldHang cX8_couldHang 3 (some .boolean), Cond.methodLink RL 85 yX7_where, Cond.instanceMethod yX7_where, Cond.selects RX7 yX7_where yX7_where, Cond.code yX7_where cX7_where 2 (some .int), Cond.fieldLink RX7 200 "ThrownSacks$Ways" "places" "[I", Cond.methodLink RL 88 yX8_where, Cond.instanceMethod yX8_where, Cond.selects RX8 yX8_where yX8_where, Cond.code yX8_where cX8_where 2 (some .int), Cond.methodLink RX8 211 yX8_whereNow, Cond.instanceMethod yX8_whereNow]
def wsL_law_r26 : List Cond := [Cond.selects RX8 yX8_whereNow yX8_whereNow, Cond.code yX8_whereNow cX8_whereNow 4 (some .int), Cond.methodLink RL 89 yX7_shifts, Cond.instanceMethod yX7_shifts, Cond.selects RX7 yX7_shifts yX7_shifts, Cond.code yX7_shifts cX7_shifts 4 (some .int), Cond.fieldLink RX7 207 "ThrownSacks$Trial" "cameNext" "I", Cond.fieldLink RX7 210 "ThrownSacks$Trial" "layBeside" "I", Cond.fieldLink RX7 213 "ThrownSacks$Trial" "seed" "I", Cond.methodLink RX7 203 yX5_run, Cond.instanceMethod yX5_run, Cond.selects RX5 yX5_run yX5_run, Cond.code yX5_run cX5_run 7 none, Cond.fieldLink RX5 21 "ThrownSacks$Trial" "seed" "I", Cond.fieldLink RX5 25 "ThrownSacks$Trial" "cameNext" "I", Cond.fieldLink RX5 28 "ThrownSacks$Trial" "layBeside" "I", Cond.fieldLink RX5 31 "ThrownSacks$Plan" "hooks" "I", Cond.methodLink RX5 15 yJ7_fill_53178, Cond.methodLink RX5 36 yX5_draw, Cond.instanceMethod yX5_draw, Cond.selects RX5 yX5_draw yX5_draw, Cond.code yX5_draw cX5_draw 2 (some .int), Cond.constantLong RX5 63 (1103515245), Cond.constantLong RX5 65 (12345)]
def wsL_law_r27 : List Cond := [Cond.constantLong RX5 67 (2147483647), Cond.methodLink RX5 40 yX4_hookOf, Cond.methodLink RX5 45 yX5_throwAt, Cond.instanceMethod yX5_throwAt, Cond.selects RX5 yX5_throwAt yX5_throwAt, Cond.code yX5_throwAt cX5_throwAt 8 none, Cond.fieldLink RX5 49 "ThrownSacks$Plan" "room" "[I", Cond.fieldLink RX5 56 "ThrownSacks$Plan" "yards" "[I", Cond.methodLink RL 92 yX8_shifts, Cond.instanceMethod yX8_shifts, Cond.selects RX8 yX8_shifts yX8_shifts, Cond.code yX8_shifts cX8_shifts 4 (some .int), Cond.methodLink RX8 241 yX8_shiftsNow, Cond.instanceMethod yX8_shiftsNow, Cond.selects RX8 yX8_shiftsNow yX8_shiftsNow, Cond.code yX8_shiftsNow cX8_shiftsNow 5 (some .int), Cond.fieldLink RX8 216 "ThrownSacksModel" "seedNow" "J", Cond.fieldLink RX8 232 "ThrownSacksModel" "cameNext" "I", Cond.fieldLink RX8 235 "ThrownSacksModel" "layBeside" "I", Cond.methodLink RX8 238 yX8_goParcel, Cond.instanceMethod yX8_goParcel, Cond.selects RX8 yX8_goParcel yX8_goParcel, Cond.code yX8_goParcel cX8_goParcel 7 none, Cond.methodLink RX8 226 yX8_draw]
def wsL_law_r28 : List Cond := [Cond.instanceMethod yX8_draw, Cond.selects RX8 yX8_draw yX8_draw, Cond.code yX8_draw cX8_draw 2 (some .int), Cond.constantLong RX8 214 (1103515245), Cond.constantLong RX8 220 (12345), Cond.constantLong RX8 222 (2147483647), Cond.constantLong RX8 224 (65536), Cond.methodLink RX8 229 yX8_wouldBeFull, Cond.instanceMethod yX8_wouldBeFull, Cond.selects RX8 yX8_wouldBeFull yX8_wouldBeFull, Cond.code yX8_wouldBeFull cX8_wouldBeFull 2 (some .boolean), Cond.methodLink RL 93 yX7_image, Cond.instanceMethod yX7_image, Cond.selects RX7 yX7_image yX7_image, Cond.code yX7_image cX7_image 1 (some .int), Cond.methodLink RX7 216 yX4_copy, Cond.instanceMethod yX4_copy, Cond.selects RX4 yX4_copy yX4_copy, Cond.code yX4_copy cX4_copy 3 none, Cond.methodLink RX4 45 yX3_copy, Cond.instanceMethod yX3_copy, Cond.selects RX3 yX3_copy yX3_copy, Cond.code yX3_copy cX3_copy 3 none, Cond.methodLink RL 96 yX8_image]
def wsL_law_r29 : List Cond := [Cond.instanceMethod yX8_image, Cond.selects RX8 yX8_image yX8_image, Cond.code yX8_image cX8_image 2 (some .int), Cond.fieldLink RX8 244 "ThrownSacksModel" "isKept" "Z", Cond.fieldLink RX8 247 "ThrownSacksModel" "keptFloor" "I", Cond.fieldLink RX8 250 "ThrownSacksModel" "keptBelt" "I", Cond.fieldLink RX8 253 "ThrownSacksModel" "keptSeconds" "I", Cond.fieldLink RX8 256 "ThrownSacksModel" "keptHarmed" "I", Cond.fieldLink RX8 259 "ThrownSacksModel" "keptFound" "I", Cond.methodLink RL 97 yX7_restore, Cond.instanceMethod yX7_restore, Cond.selects RX7 yX7_restore yX7_restore, Cond.code yX7_restore cX7_restore 1 (some .int), Cond.methodLink RL 100 yX8_restore, Cond.instanceMethod yX8_restore, Cond.selects RX8 yX8_restore yX8_restore, Cond.code yX8_restore cX8_restore 2 (some .int), Cond.methodLink RL 101 yX7_count, Cond.instanceMethod yX7_count, Cond.selects RX7 yX7_count yX7_count, Cond.code yX7_count cX7_count 2 (some .int), Cond.fieldLink RX7 226 "ThrownSacks$Standing" "harmed" "I", Cond.methodLink RX7 220 yX4_inSacks, Cond.instanceMethod yX4_inSacks]
def wsL_law_r30 : List Cond := [Cond.selects RX4 yX4_inSacks yX4_inSacks, Cond.code yX4_inSacks cX4_inSacks 4 (some .int), Cond.methodLink RX7 223 yX4_wrongInSacks, Cond.instanceMethod yX4_wrongInSacks, Cond.selects RX4 yX4_wrongInSacks yX4_wrongInSacks, Cond.code yX4_wrongInSacks cX4_wrongInSacks 4 (some .int), Cond.methodLink RX4 67 yX3_notFor, Cond.methodLink RL 104 yX8_count, Cond.instanceMethod yX8_count, Cond.selects RX8 yX8_count yX8_count, Cond.code yX8_count cX8_count 2 (some .int), Cond.methodLink RX8 266 yX8_howMany, Cond.instanceMethod yX8_howMany, Cond.selects RX8 yX8_howMany yX8_howMany, Cond.code yX8_howMany cX8_howMany 2 (some .int), Cond.methodLink RX8 262 yX8_inSacks, Cond.instanceMethod yX8_inSacks, Cond.selects RX8 yX8_inSacks yX8_inSacks, Cond.code yX8_inSacks cX8_inSacks 4 (some .int), Cond.methodLink RL 105 yX7_digest, Cond.instanceMethod yX7_digest, Cond.selects RX7 yX7_digest yX7_digest, Cond.code yX7_digest cX7_digest 5 (some .long), Cond.constantLong RX7 229 (827)]
def wsL_law_r31 : List Cond := [Cond.constantLong RX7 235 (31), Cond.methodLink RX7 231 yX7_withHook, Cond.instanceMethod yX7_withHook, Cond.selects RX7 yX7_withHook yX7_withHook, Cond.code yX7_withHook cX7_withHook 7 (some .long), Cond.methodLink RX7 249 yX7_hook, Cond.methodLink RX7 252 yX7_odds, Cond.methodLink RX7 237 yX7_belt, Cond.methodLink RX7 239 yX7_withHanging, Cond.instanceMethod yX7_withHanging, Cond.selects RX7 yX7_withHanging yX7_withHanging, Cond.code yX7_withHanging cX7_withHanging 6 (some .long), Cond.methodLink RX7 255 yX7_hanging, Cond.methodLink RX7 258 yX7_hung, Cond.methodLink RX7 261 yX7_where, Cond.methodLink RX7 243 yX1_codeAt, Cond.methodLink RX7 246 yX7_count, Cond.methodLink RL 109 yX8_digest, Cond.instanceMethod yX8_digest, Cond.selects RX8 yX8_digest yX8_digest, Cond.code yX8_digest cX8_digest 3 (some .long), Cond.constantLong RX8 278 (827), Cond.fieldLink RX8 271 "ThrownSacksModel" "h" "J", Cond.methodLink RX8 280 yX8_mixHook]
def wsL_law_r32 : List Cond := [Cond.instanceMethod yX8_mixHook, Cond.selects RX8 yX8_mixHook yX8_mixHook, Cond.code yX8_mixHook cX8_mixHook 3 none, Cond.methodLink RX8 274 yX8_mix, Cond.instanceMethod yX8_mix, Cond.selects RX8 yX8_mix yX8_mix, Cond.code yX8_mix cX8_mix 3 none, Cond.constantLong RX8 269 (31), Cond.methodLink RX8 283 yX8_mixFloor, Cond.instanceMethod yX8_mixFloor, Cond.selects RX8 yX8_mixFloor yX8_mixFloor, Cond.code yX8_mixFloor cX8_mixFloor 2 none]
def wsL_law : List Cond := (wsL_law_r1 ++ (wsL_law_r2 ++ (wsL_law_r3 ++ (wsL_law_r4 ++ (wsL_law_r5 ++ (wsL_law_r6 ++ (wsL_law_r7 ++ (wsL_law_r8 ++ (wsL_law_r9 ++ (wsL_law_r10 ++ (wsL_law_r11 ++ (wsL_law_r12 ++ (wsL_law_r13 ++ (wsL_law_r14 ++ (wsL_law_r15 ++ (wsL_law_r16 ++ (wsL_law_r17 ++ (wsL_law_r18 ++ (wsL_law_r19 ++ (wsL_law_r20 ++ (wsL_law_r21 ++ (wsL_law_r22 ++ (wsL_law_r23 ++ (wsL_law_r24 ++ (wsL_law_r25 ++ (wsL_law_r26 ++ (wsL_law_r27 ++ (wsL_law_r28 ++ (wsL_law_r29 ++ (wsL_law_r30 ++ (wsL_law_r31 ++ wsL_law_r32))))))))))))))))))))))))))))))) ++ wsX70 ++ wsX80 ++ wsX10 ++ wsX20 ++ wsX40 ++ wsX00 ++ wsX60 ++ wsX50 ++ wsX30 ++ ([] : List Cond)
abbrev vwCl : List vw_C := [(RX0, TX0, 4), (RX1, TX1, 2), (RX2, TX2, 4), (RX3, TX3, 4), (RX4, TX4, 8), (RX5, TX5, 4), (RX6, TX6, 5), (RX7, TX7, 9), (RX8, TX8, 42)]
end
section
theorem dX0_init_0 : decode cX0_init 0 = .ok (.aload_n 0, 1) := by decide +kernel
theorem dX0_init_1 : decode cX0_init 1 = .ok (.invokespecial 3, 3) := by decide +kernel
theorem dX0_init_4 : decode cX0_init 4 = .ok (.aload_n 0, 1) := by decide +kernel
theorem dX0_init_5 : decode cX0_init 5 = .ok (.bipush 6, 2) := by decide +kernel
theorem dX0_init_7 : decode cX0_init 7 = .ok (.newarray .int, 2) := by decide +kernel
theorem dX0_init_9 : decode cX0_init 9 = .ok (.putfield 9, 3) := by decide +kernel
theorem dX0_init_12 : decode cX0_init 12 = .ok (.aload_n 0, 1) := by decide +kernel
theorem dX0_init_13 : decode cX0_init 13 = .ok (.bipush 6, 2) := by decide +kernel
theorem dX0_init_15 : decode cX0_init 15 = .ok (.newarray .int, 2) := by decide +kernel
theorem dX0_init_17 : decode cX0_init 17 = .ok (.putfield 15, 3) := by decide +kernel
theorem dX0_init_20 : decode cX0_init 20 = .ok (.aload_n 0, 1) := by decide +kernel
theorem dX0_init_21 : decode cX0_init 21 = .ok (.bipush 64, 2) := by decide +kernel
theorem dX0_init_23 : decode cX0_init 23 = .ok (.newarray .int, 2) := by decide +kernel
theorem dX0_init_25 : decode cX0_init 25 = .ok (.putfield 18, 3) := by decide +kernel
theorem dX0_init_28 : decode cX0_init 28 = .ok (.return_, 1) := by decide +kernel
set_option maxRecDepth 20000 in
theorem ggX0_seek_X7_costOf : GoodIn wsX0_seek wsX7_costOf := goodIn_r _ [13, 14, 15, 12, 16, 17, 5, 6, 7, 18, 19, 20, 21, 22, 23, 24, 25, 26, 27, 28, 29, 30] (by decide +kernel) (by decide +kernel)
set_option maxRecDepth 20000 in
theorem gX0_seek_X7_costOf_n30 : GoodIn wsX0_seek (wsX7_costOf) := ggX0_seek_X7_costOf
set_option maxRecDepth 20000 in
theorem ggX0_seek_X7_carryTenths : GoodIn wsX0_seek wsX7_carryTenths := goodIn_r _ [27, 28, 29, 12, 30] (by decide +kernel) (by decide +kernel)
set_option maxRecDepth 20000 in
theorem gX0_seek_X7_carryTenths_n34 : GoodIn wsX0_seek (wsX7_carryTenths) := ggX0_seek_X7_carryTenths
set_option maxRecDepth 20000 in
theorem ggX0_seek_X0_bestTown : GoodIn wsX0_seek wsX0_bestTown := goodIn_r _ [35, 1, 36, 37, 38, 34, 39, 8, 3, 40, 41, 42, 43, 44, 45, 46, 47, 48, 49, 50, 51, 52, 53, 54, 55, 56, 57, 58, 59, 60, 61] (by decide +kernel) (by decide +kernel)
set_option maxRecDepth 20000 in
theorem gX0_seek_X0_bestTown : GoodIn wsX0_seek (wsV RX0 44 RX0 yX0_bestTown wsX0_bestTown) := goodIn_app (goodIn_of _ (by decide +kernel)) ggX0_seek_X0_bestTown
set_option maxRecDepth 20000 in
theorem ggX0_seek_X0_withTown : GoodIn wsX0_seek wsX0_withTown := goodIn_r _ [39, 1, 8, 3, 40, 41, 42, 43, 44, 45, 46, 47, 48, 49, 50, 51, 52, 53, 54, 55, 56, 57, 58, 59, 60, 61] (by decide +kernel) (by decide +kernel)
set_option maxRecDepth 20000 in
theorem gX0_seek_X0_withTown : GoodIn wsX0_seek (wsV RX0 48 RX0 yX0_withTown wsX0_withTown) := goodIn_app (goodIn_of _ (by decide +kernel)) ggX0_seek_X0_withTown
theorem dX0_seek_0 : decode cX0_seek 0 = .ok (.iconst 0, 1) := by decide +kernel
theorem dX0_seek_1 : decode cX0_seek 1 = .ok (.istore_n 2, 1) := by decide +kernel
theorem dX0_seek_2 : decode cX0_seek 2 = .ok (.iload_n 2, 1) := by decide +kernel
theorem dX0_seek_3 : decode cX0_seek 3 = .ok (.aload_n 1, 1) := by decide +kernel
theorem dX0_seek_4 : decode cX0_seek 4 = .ok (.getfield 21, 3) := by decide +kernel
theorem dX0_seek_7 : decode cX0_seek 7 = .ok (.if_icmp .ge 35, 3) := by decide +kernel
theorem dX0_seek_10 : decode cX0_seek 10 = .ok (.aload_n 1, 1) := by decide +kernel
theorem dX0_seek_11 : decode cX0_seek 11 = .ok (.getfield 27, 3) := by decide +kernel
theorem dX0_seek_14 : decode cX0_seek 14 = .ok (.iload_n 2, 1) := by decide +kernel
theorem dX0_seek_15 : decode cX0_seek 15 = .ok (.iaload, 1) := by decide +kernel
theorem dX0_seek_16 : decode cX0_seek 16 = .ok (.istore_n 3, 1) := by decide +kernel
theorem dX0_seek_17 : decode cX0_seek 17 = .ok (.aload_n 0, 1) := by decide +kernel
theorem dX0_seek_18 : decode cX0_seek 18 = .ok (.getfield 15, 3) := by decide +kernel
theorem dX0_seek_21 : decode cX0_seek 21 = .ok (.iload_n 2, 1) := by decide +kernel
theorem dX0_seek_22 : decode cX0_seek 22 = .ok (.iconst 0, 1) := by decide +kernel
theorem dX0_seek_23 : decode cX0_seek 23 = .ok (.iload_n 3, 1) := by decide +kernel
theorem dX0_seek_24 : decode cX0_seek 24 = .ok (.iconst 0, 1) := by decide +kernel
theorem dX0_seek_25 : decode cX0_seek 25 = .ok (.invokestatic 30, 3) := by decide +kernel
theorem dX0_seek_28 : decode cX0_seek 28 = .ok (.iload_n 3, 1) := by decide +kernel
theorem dX0_seek_29 : decode cX0_seek 29 = .ok (.invokestatic 34, 3) := by decide +kernel
theorem dX0_seek_32 : decode cX0_seek 32 = .ok (.invokestatic 38, 3) := by decide +kernel
theorem dX0_seek_35 : decode cX0_seek 35 = .ok (.iastore, 1) := by decide +kernel
theorem dX0_seek_36 : decode cX0_seek 36 = .ok (.iinc 2 1, 3) := by decide +kernel
theorem dX0_seek_39 : decode cX0_seek 39 = .ok (.goto (-37), 3) := by decide +kernel
theorem dX0_seek_42 : decode cX0_seek 42 = .ok (.iconst 1, 1) := by decide +kernel
theorem dX0_seek_43 : decode cX0_seek 43 = .ok (.aload_n 1, 1) := by decide +kernel
theorem dX0_seek_44 : decode cX0_seek 44 = .ok (.getfield 21, 3) := by decide +kernel
theorem dX0_seek_47 : decode cX0_seek 47 = .ok (.ishl, 1) := by decide +kernel
theorem dX0_seek_48 : decode cX0_seek 48 = .ok (.iconst 1, 1) := by decide +kernel
theorem dX0_seek_49 : decode cX0_seek 49 = .ok (.isub, 1) := by decide +kernel
theorem dX0_seek_50 : decode cX0_seek 50 = .ok (.istore_n 2, 1) := by decide +kernel
theorem dX0_seek_51 : decode cX0_seek 51 = .ok (.aload_n 0, 1) := by decide +kernel
theorem dX0_seek_52 : decode cX0_seek 52 = .ok (.getfield 18, 3) := by decide +kernel
theorem dX0_seek_55 : decode cX0_seek 55 = .ok (.iload_n 2, 1) := by decide +kernel
theorem dX0_seek_56 : decode cX0_seek 56 = .ok (.iconst 0, 1) := by decide +kernel
theorem dX0_seek_57 : decode cX0_seek 57 = .ok (.iastore, 1) := by decide +kernel
theorem dX0_seek_58 : decode cX0_seek 58 = .ok (.iload_n 2, 1) := by decide +kernel
theorem dX0_seek_59 : decode cX0_seek 59 = .ok (.iconst 1, 1) := by decide +kernel
theorem dX0_seek_60 : decode cX0_seek 60 = .ok (.isub, 1) := by decide +kernel
theorem dX0_seek_61 : decode cX0_seek 61 = .ok (.istore_n 3, 1) := by decide +kernel
theorem dX0_seek_62 : decode cX0_seek 62 = .ok (.iload_n 3, 1) := by decide +kernel
theorem dX0_seek_63 : decode cX0_seek 63 = .ok (.ifCond .lt 27, 3) := by decide +kernel
theorem dX0_seek_66 : decode cX0_seek 66 = .ok (.aload_n 0, 1) := by decide +kernel
theorem dX0_seek_67 : decode cX0_seek 67 = .ok (.getfield 18, 3) := by decide +kernel
theorem dX0_seek_70 : decode cX0_seek 70 = .ok (.iload_n 3, 1) := by decide +kernel
theorem dX0_seek_71 : decode cX0_seek 71 = .ok (.aload_n 0, 1) := by decide +kernel
theorem dX0_seek_72 : decode cX0_seek 72 = .ok (.aload_n 1, 1) := by decide +kernel
theorem dX0_seek_73 : decode cX0_seek 73 = .ok (.iload_n 3, 1) := by decide +kernel
theorem dX0_seek_74 : decode cX0_seek 74 = .ok (.aload_n 0, 1) := by decide +kernel
theorem dX0_seek_75 : decode cX0_seek 75 = .ok (.aload_n 1, 1) := by decide +kernel
theorem dX0_seek_76 : decode cX0_seek 76 = .ok (.iload_n 3, 1) := by decide +kernel
theorem dX0_seek_77 : decode cX0_seek 77 = .ok (.invokevirtual 44, 3) := by decide +kernel
theorem dX0_seek_80 : decode cX0_seek 80 = .ok (.invokevirtual 48, 3) := by decide +kernel
theorem dX0_seek_83 : decode cX0_seek 83 = .ok (.iastore, 1) := by decide +kernel
theorem dX0_seek_84 : decode cX0_seek 84 = .ok (.iinc 3 (-1), 3) := by decide +kernel
theorem dX0_seek_87 : decode cX0_seek 87 = .ok (.goto (-25), 3) := by decide +kernel
theorem dX0_seek_90 : decode cX0_seek 90 = .ok (.aload_n 0, 1) := by decide +kernel
theorem dX0_seek_91 : decode cX0_seek 91 = .ok (.aload_n 0, 1) := by decide +kernel
theorem dX0_seek_92 : decode cX0_seek 92 = .ok (.getfield 18, 3) := by decide +kernel
theorem dX0_seek_95 : decode cX0_seek 95 = .ok (.iconst 0, 1) := by decide +kernel
theorem dX0_seek_96 : decode cX0_seek 96 = .ok (.iaload, 1) := by decide +kernel
theorem dX0_seek_97 : decode cX0_seek 97 = .ok (.putfield 52, 3) := by decide +kernel
theorem dX0_seek_100 : decode cX0_seek 100 = .ok (.iconst 0, 1) := by decide +kernel
theorem dX0_seek_101 : decode cX0_seek 101 = .ok (.istore_n 3, 1) := by decide +kernel
theorem dX0_seek_102 : decode cX0_seek 102 = .ok (.iconst 0, 1) := by decide +kernel
theorem dX0_seek_103 : decode cX0_seek 103 = .ok (.istore 4, 2) := by decide +kernel
theorem dX0_seek_105 : decode cX0_seek 105 = .ok (.iload 4, 2) := by decide +kernel
theorem dX0_seek_107 : decode cX0_seek 107 = .ok (.aload_n 1, 1) := by decide +kernel
theorem dX0_seek_108 : decode cX0_seek 108 = .ok (.getfield 21, 3) := by decide +kernel
theorem dX0_seek_111 : decode cX0_seek 111 = .ok (.if_icmp .ge 34, 3) := by decide +kernel
theorem dX0_seek_114 : decode cX0_seek 114 = .ok (.aload_n 0, 1) := by decide +kernel
theorem dX0_seek_115 : decode cX0_seek 115 = .ok (.getfield 9, 3) := by decide +kernel
theorem dX0_seek_118 : decode cX0_seek 118 = .ok (.iload 4, 2) := by decide +kernel
theorem dX0_seek_120 : decode cX0_seek 120 = .ok (.aload_n 0, 1) := by decide +kernel
theorem dX0_seek_121 : decode cX0_seek 121 = .ok (.aload_n 1, 1) := by decide +kernel
theorem dX0_seek_122 : decode cX0_seek 122 = .ok (.iload_n 3, 1) := by decide +kernel
theorem dX0_seek_123 : decode cX0_seek 123 = .ok (.invokevirtual 44, 3) := by decide +kernel
theorem dX0_seek_126 : decode cX0_seek 126 = .ok (.iastore, 1) := by decide +kernel
theorem dX0_seek_127 : decode cX0_seek 127 = .ok (.iload_n 3, 1) := by decide +kernel
theorem dX0_seek_128 : decode cX0_seek 128 = .ok (.iconst 1, 1) := by decide +kernel
theorem dX0_seek_129 : decode cX0_seek 129 = .ok (.aload_n 0, 1) := by decide +kernel
theorem dX0_seek_130 : decode cX0_seek 130 = .ok (.getfield 9, 3) := by decide +kernel
theorem dX0_seek_133 : decode cX0_seek 133 = .ok (.iload 4, 2) := by decide +kernel
theorem dX0_seek_135 : decode cX0_seek 135 = .ok (.iaload, 1) := by decide +kernel
theorem dX0_seek_136 : decode cX0_seek 136 = .ok (.ishl, 1) := by decide +kernel
theorem dX0_seek_137 : decode cX0_seek 137 = .ok (.ior, 1) := by decide +kernel
theorem dX0_seek_138 : decode cX0_seek 138 = .ok (.istore_n 3, 1) := by decide +kernel
theorem dX0_seek_139 : decode cX0_seek 139 = .ok (.iinc 4 1, 3) := by decide +kernel
theorem dX0_seek_142 : decode cX0_seek 142 = .ok (.goto (-37), 3) := by decide +kernel
theorem dX0_seek_145 : decode cX0_seek 145 = .ok (.return_, 1) := by decide +kernel
set_option maxRecDepth 20000 in
theorem ggX0_bestTown_X0_withTown : GoodIn wsX0_bestTown wsX0_withTown := goodIn_r _ [6, 1, 7, 8, 9, 10, 11, 12, 13, 14, 15, 16, 17, 18, 19, 20, 21, 22, 23, 24, 25, 26, 27, 28, 29, 30] (by decide +kernel) (by decide +kernel)
set_option maxRecDepth 20000 in
theorem gX0_bestTown_X0_withTown : GoodIn wsX0_bestTown (wsV RX0 48 RX0 yX0_withTown wsX0_withTown) := goodIn_app (goodIn_of _ (by decide +kernel)) ggX0_bestTown_X0_withTown
theorem dX0_bestTown_0 : decode cX0_bestTown 0 = .ok (.iconst (-1), 1) := by decide +kernel
theorem dX0_bestTown_1 : decode cX0_bestTown 1 = .ok (.istore_n 3, 1) := by decide +kernel
theorem dX0_bestTown_2 : decode cX0_bestTown 2 = .ok (.iconst 0, 1) := by decide +kernel
theorem dX0_bestTown_3 : decode cX0_bestTown 3 = .ok (.istore 4, 2) := by decide +kernel
theorem dX0_bestTown_5 : decode cX0_bestTown 5 = .ok (.iconst 0, 1) := by decide +kernel
theorem dX0_bestTown_6 : decode cX0_bestTown 6 = .ok (.istore 5, 2) := by decide +kernel
theorem dX0_bestTown_8 : decode cX0_bestTown 8 = .ok (.iload 5, 2) := by decide +kernel
theorem dX0_bestTown_10 : decode cX0_bestTown 10 = .ok (.aload_n 1, 1) := by decide +kernel
theorem dX0_bestTown_11 : decode cX0_bestTown 11 = .ok (.getfield 21, 3) := by decide +kernel
theorem dX0_bestTown_14 : decode cX0_bestTown 14 = .ok (.if_icmp .ge 47, 3) := by decide +kernel
theorem dX0_bestTown_17 : decode cX0_bestTown 17 = .ok (.iload_n 2, 1) := by decide +kernel
theorem dX0_bestTown_18 : decode cX0_bestTown 18 = .ok (.iload 5, 2) := by decide +kernel
theorem dX0_bestTown_20 : decode cX0_bestTown 20 = .ok (.ishr, 1) := by decide +kernel
theorem dX0_bestTown_21 : decode cX0_bestTown 21 = .ok (.iconst 1, 1) := by decide +kernel
theorem dX0_bestTown_22 : decode cX0_bestTown 22 = .ok (.iand, 1) := by decide +kernel
theorem dX0_bestTown_23 : decode cX0_bestTown 23 = .ok (.ifCond .ne 32, 3) := by decide +kernel
theorem dX0_bestTown_26 : decode cX0_bestTown 26 = .ok (.aload_n 0, 1) := by decide +kernel
theorem dX0_bestTown_27 : decode cX0_bestTown 27 = .ok (.aload_n 1, 1) := by decide +kernel
theorem dX0_bestTown_28 : decode cX0_bestTown 28 = .ok (.iload_n 2, 1) := by decide +kernel
theorem dX0_bestTown_29 : decode cX0_bestTown 29 = .ok (.iload 5, 2) := by decide +kernel
theorem dX0_bestTown_31 : decode cX0_bestTown 31 = .ok (.invokevirtual 48, 3) := by decide +kernel
theorem dX0_bestTown_34 : decode cX0_bestTown 34 = .ok (.istore 6, 2) := by decide +kernel
theorem dX0_bestTown_36 : decode cX0_bestTown 36 = .ok (.iload_n 3, 1) := by decide +kernel
theorem dX0_bestTown_37 : decode cX0_bestTown 37 = .ok (.iconst (-1), 1) := by decide +kernel
theorem dX0_bestTown_38 : decode cX0_bestTown 38 = .ok (.if_icmp .eq 10, 3) := by decide +kernel
theorem dX0_bestTown_41 : decode cX0_bestTown 41 = .ok (.iload 6, 2) := by decide +kernel
theorem dX0_bestTown_43 : decode cX0_bestTown 43 = .ok (.iload 4, 2) := by decide +kernel
theorem dX0_bestTown_45 : decode cX0_bestTown 45 = .ok (.if_icmp .ge 10, 3) := by decide +kernel
theorem dX0_bestTown_48 : decode cX0_bestTown 48 = .ok (.iload 5, 2) := by decide +kernel
theorem dX0_bestTown_50 : decode cX0_bestTown 50 = .ok (.istore_n 3, 1) := by decide +kernel
theorem dX0_bestTown_51 : decode cX0_bestTown 51 = .ok (.iload 6, 2) := by decide +kernel
theorem dX0_bestTown_53 : decode cX0_bestTown 53 = .ok (.istore 4, 2) := by decide +kernel
theorem dX0_bestTown_55 : decode cX0_bestTown 55 = .ok (.iinc 5 1, 3) := by decide +kernel
theorem dX0_bestTown_58 : decode cX0_bestTown 58 = .ok (.goto (-50), 3) := by decide +kernel
theorem dX0_bestTown_61 : decode cX0_bestTown 61 = .ok (.iload_n 3, 1) := by decide +kernel
theorem dX0_bestTown_62 : decode cX0_bestTown 62 = .ok (.iconst (-1), 1) := by decide +kernel
theorem dX0_bestTown_63 : decode cX0_bestTown 63 = .ok (.if_icmp .ne 7, 3) := by decide +kernel
theorem dX0_bestTown_66 : decode cX0_bestTown 66 = .ok (.iconst 0, 1) := by decide +kernel
theorem dX0_bestTown_67 : decode cX0_bestTown 67 = .ok (.goto 4, 3) := by decide +kernel
theorem dX0_bestTown_70 : decode cX0_bestTown 70 = .ok (.iload_n 3, 1) := by decide +kernel
theorem dX0_bestTown_71 : decode cX0_bestTown 71 = .ok (.ireturn, 1) := by decide +kernel
set_option maxRecDepth 20000 in
theorem ggX0_withTown_J6_bitCount_0f7a4 : GoodIn wsX0_withTown wsJ6_bitCount_0f7a4 := goodIn_r _ [7, 8, 9, 10] (by decide +kernel) (by decide +kernel)
set_option maxRecDepth 20000 in
theorem gX0_withTown_J6_bitCount_0f7a4 : GoodIn wsX0_withTown (va_wsS RX0 55 yJ6_bitCount_0f7a4 wsJ6_bitCount_0f7a4) := goodIn_app (goodIn_of _ (by decide +kernel)) ggX0_withTown_J6_bitCount_0f7a4
set_option maxRecDepth 20000 in
theorem ggX0_withTown_X2_oftenOf : GoodIn wsX0_withTown wsX2_oftenOf := goodIn_r _ [15, 16, 17, 18, 19, 20, 21] (by decide +kernel) (by decide +kernel)
set_option maxRecDepth 20000 in
theorem gX0_withTown_X2_oftenOf : GoodIn wsX0_withTown (wsV RX0 60 RX2 yX2_oftenOf wsX2_oftenOf) := goodIn_app (goodIn_of _ (by decide +kernel)) ggX0_withTown_X2_oftenOf
theorem dX0_withTown_0 : decode cX0_withTown 0 = .ok (.iload_n 2, 1) := by decide +kernel
theorem dX0_withTown_1 : decode cX0_withTown 1 = .ok (.invokestatic 55, 3) := by decide +kernel
theorem dX0_withTown_4 : decode cX0_withTown 4 = .ok (.istore 4, 2) := by decide +kernel
theorem dX0_withTown_6 : decode cX0_withTown 6 = .ok (.iload_n 2, 1) := by decide +kernel
theorem dX0_withTown_7 : decode cX0_withTown 7 = .ok (.iconst 1, 1) := by decide +kernel
theorem dX0_withTown_8 : decode cX0_withTown 8 = .ok (.iload_n 3, 1) := by decide +kernel
theorem dX0_withTown_9 : decode cX0_withTown 9 = .ok (.ishl, 1) := by decide +kernel
theorem dX0_withTown_10 : decode cX0_withTown 10 = .ok (.ior, 1) := by decide +kernel
theorem dX0_withTown_11 : decode cX0_withTown 11 = .ok (.istore 5, 2) := by decide +kernel
theorem dX0_withTown_13 : decode cX0_withTown 13 = .ok (.iload 4, 2) := by decide +kernel
theorem dX0_withTown_15 : decode cX0_withTown 15 = .ok (.aload_n 1, 1) := by decide +kernel
theorem dX0_withTown_16 : decode cX0_withTown 16 = .ok (.getfield 21, 3) := by decide +kernel
theorem dX0_withTown_19 : decode cX0_withTown 19 = .ok (.if_icmp .ge 13, 3) := by decide +kernel
theorem dX0_withTown_22 : decode cX0_withTown 22 = .ok (.iload 5, 2) := by decide +kernel
theorem dX0_withTown_24 : decode cX0_withTown 24 = .ok (.aload_n 0, 1) := by decide +kernel
theorem dX0_withTown_25 : decode cX0_withTown 25 = .ok (.getfield 18, 3) := by decide +kernel
theorem dX0_withTown_28 : decode cX0_withTown 28 = .ok (.arraylength, 1) := by decide +kernel
theorem dX0_withTown_29 : decode cX0_withTown 29 = .ok (.if_icmp .lt 5, 3) := by decide +kernel
theorem dX0_withTown_32 : decode cX0_withTown 32 = .ok (.iconst 0, 1) := by decide +kernel
theorem dX0_withTown_33 : decode cX0_withTown 33 = .ok (.ireturn, 1) := by decide +kernel
theorem dX0_withTown_34 : decode cX0_withTown 34 = .ok (.aload_n 1, 1) := by decide +kernel
theorem dX0_withTown_35 : decode cX0_withTown 35 = .ok (.iload_n 3, 1) := by decide +kernel
theorem dX0_withTown_36 : decode cX0_withTown 36 = .ok (.invokevirtual 60, 3) := by decide +kernel
theorem dX0_withTown_39 : decode cX0_withTown 39 = .ok (.aload_n 0, 1) := by decide +kernel
theorem dX0_withTown_40 : decode cX0_withTown 40 = .ok (.getfield 15, 3) := by decide +kernel
theorem dX0_withTown_43 : decode cX0_withTown 43 = .ok (.iload 4, 2) := by decide +kernel
theorem dX0_withTown_45 : decode cX0_withTown 45 = .ok (.iaload, 1) := by decide +kernel
theorem dX0_withTown_46 : decode cX0_withTown 46 = .ok (.imul, 1) := by decide +kernel
theorem dX0_withTown_47 : decode cX0_withTown 47 = .ok (.aload_n 0, 1) := by decide +kernel
theorem dX0_withTown_48 : decode cX0_withTown 48 = .ok (.getfield 18, 3) := by decide +kernel
theorem dX0_withTown_51 : decode cX0_withTown 51 = .ok (.iload 5, 2) := by decide +kernel
theorem dX0_withTown_53 : decode cX0_withTown 53 = .ok (.iaload, 1) := by decide +kernel
theorem dX0_withTown_54 : decode cX0_withTown 54 = .ok (.iadd, 1) := by decide +kernel
theorem dX0_withTown_55 : decode cX0_withTown 55 = .ok (.ireturn, 1) := by decide +kernel
set_option maxRecDepth 20000 in
theorem ggX0_exchangesFrom_X4_hookOf : GoodIn wsX0_exchangesFrom wsX4_hookOf := goodIn_r _ [6, 7, 12, 13, 14, 15, 16, 17, 18, 19] (by decide +kernel) (by decide +kernel)
set_option maxRecDepth 20000 in
theorem gX0_exchangesFrom_X4_hookOf : GoodIn wsX0_exchangesFrom (wsV RX0 63 RX4 yX4_hookOf wsX4_hookOf) := goodIn_app (goodIn_of _ (by decide +kernel)) ggX0_exchangesFrom_X4_hookOf
theorem dX0_exchangesFrom_0 : decode cX0_exchangesFrom 0 = .ok (.iconst 0, 1) := by decide +kernel
theorem dX0_exchangesFrom_1 : decode cX0_exchangesFrom 1 = .ok (.istore_n 3, 1) := by decide +kernel
theorem dX0_exchangesFrom_2 : decode cX0_exchangesFrom 2 = .ok (.iconst 0, 1) := by decide +kernel
theorem dX0_exchangesFrom_3 : decode cX0_exchangesFrom 3 = .ok (.istore 4, 2) := by decide +kernel
theorem dX0_exchangesFrom_5 : decode cX0_exchangesFrom 5 = .ok (.iconst 0, 1) := by decide +kernel
theorem dX0_exchangesFrom_6 : decode cX0_exchangesFrom 6 = .ok (.istore 5, 2) := by decide +kernel
theorem dX0_exchangesFrom_8 : decode cX0_exchangesFrom 8 = .ok (.iload 5, 2) := by decide +kernel
theorem dX0_exchangesFrom_10 : decode cX0_exchangesFrom 10 = .ok (.iload_n 2, 1) := by decide +kernel
theorem dX0_exchangesFrom_11 : decode cX0_exchangesFrom 11 = .ok (.if_icmp .ge 79, 3) := by decide +kernel
theorem dX0_exchangesFrom_14 : decode cX0_exchangesFrom 14 = .ok (.iload 4, 2) := by decide +kernel
theorem dX0_exchangesFrom_16 : decode cX0_exchangesFrom 16 = .ok (.iload 5, 2) := by decide +kernel
theorem dX0_exchangesFrom_18 : decode cX0_exchangesFrom 18 = .ok (.ishr, 1) := by decide +kernel
theorem dX0_exchangesFrom_19 : decode cX0_exchangesFrom 19 = .ok (.iconst 1, 1) := by decide +kernel
theorem dX0_exchangesFrom_20 : decode cX0_exchangesFrom 20 = .ok (.iand, 1) := by decide +kernel
theorem dX0_exchangesFrom_21 : decode cX0_exchangesFrom 21 = .ok (.ifCond .ne 6, 3) := by decide +kernel
theorem dX0_exchangesFrom_24 : decode cX0_exchangesFrom 24 = .ok (.iinc 3 1, 3) := by decide +kernel
theorem dX0_exchangesFrom_27 : decode cX0_exchangesFrom 27 = .ok (.iload 5, 2) := by decide +kernel
theorem dX0_exchangesFrom_29 : decode cX0_exchangesFrom 29 = .ok (.istore 6, 2) := by decide +kernel
theorem dX0_exchangesFrom_31 : decode cX0_exchangesFrom 31 = .ok (.iconst 0, 1) := by decide +kernel
theorem dX0_exchangesFrom_32 : decode cX0_exchangesFrom 32 = .ok (.istore 7, 2) := by decide +kernel
theorem dX0_exchangesFrom_34 : decode cX0_exchangesFrom 34 = .ok (.iload 7, 2) := by decide +kernel
theorem dX0_exchangesFrom_36 : decode cX0_exchangesFrom 36 = .ok (.iload_n 2, 1) := by decide +kernel
theorem dX0_exchangesFrom_37 : decode cX0_exchangesFrom 37 = .ok (.if_icmp .ge 47, 3) := by decide +kernel
theorem dX0_exchangesFrom_40 : decode cX0_exchangesFrom 40 = .ok (.iload 6, 2) := by decide +kernel
theorem dX0_exchangesFrom_42 : decode cX0_exchangesFrom 42 = .ok (.iconst (-1), 1) := by decide +kernel
theorem dX0_exchangesFrom_43 : decode cX0_exchangesFrom 43 = .ok (.if_icmp .eq 41, 3) := by decide +kernel
theorem dX0_exchangesFrom_46 : decode cX0_exchangesFrom 46 = .ok (.iload 4, 2) := by decide +kernel
theorem dX0_exchangesFrom_48 : decode cX0_exchangesFrom 48 = .ok (.iload 6, 2) := by decide +kernel
theorem dX0_exchangesFrom_50 : decode cX0_exchangesFrom 50 = .ok (.ishr, 1) := by decide +kernel
theorem dX0_exchangesFrom_51 : decode cX0_exchangesFrom 51 = .ok (.iconst 1, 1) := by decide +kernel
theorem dX0_exchangesFrom_52 : decode cX0_exchangesFrom 52 = .ok (.iand, 1) := by decide +kernel
theorem dX0_exchangesFrom_53 : decode cX0_exchangesFrom 53 = .ok (.ifCond .ne 31, 3) := by decide +kernel
theorem dX0_exchangesFrom_56 : decode cX0_exchangesFrom 56 = .ok (.iload 4, 2) := by decide +kernel
theorem dX0_exchangesFrom_58 : decode cX0_exchangesFrom 58 = .ok (.iconst 1, 1) := by decide +kernel
theorem dX0_exchangesFrom_59 : decode cX0_exchangesFrom 59 = .ok (.iload 6, 2) := by decide +kernel
theorem dX0_exchangesFrom_61 : decode cX0_exchangesFrom 61 = .ok (.ishl, 1) := by decide +kernel
theorem dX0_exchangesFrom_62 : decode cX0_exchangesFrom 62 = .ok (.ior, 1) := by decide +kernel
theorem dX0_exchangesFrom_63 : decode cX0_exchangesFrom 63 = .ok (.istore 4, 2) := by decide +kernel
theorem dX0_exchangesFrom_65 : decode cX0_exchangesFrom 65 = .ok (.aload_n 1, 1) := by decide +kernel
theorem dX0_exchangesFrom_66 : decode cX0_exchangesFrom 66 = .ok (.aload_n 0, 1) := by decide +kernel
theorem dX0_exchangesFrom_67 : decode cX0_exchangesFrom 67 = .ok (.getfield 9, 3) := by decide +kernel
theorem dX0_exchangesFrom_70 : decode cX0_exchangesFrom 70 = .ok (.iload 6, 2) := by decide +kernel
theorem dX0_exchangesFrom_72 : decode cX0_exchangesFrom 72 = .ok (.iaload, 1) := by decide +kernel
theorem dX0_exchangesFrom_73 : decode cX0_exchangesFrom 73 = .ok (.invokevirtual 63, 3) := by decide +kernel
theorem dX0_exchangesFrom_76 : decode cX0_exchangesFrom 76 = .ok (.istore 6, 2) := by decide +kernel
theorem dX0_exchangesFrom_78 : decode cX0_exchangesFrom 78 = .ok (.iinc 7 1, 3) := by decide +kernel
theorem dX0_exchangesFrom_81 : decode cX0_exchangesFrom 81 = .ok (.goto (-47), 3) := by decide +kernel
theorem dX0_exchangesFrom_84 : decode cX0_exchangesFrom 84 = .ok (.iinc 5 1, 3) := by decide +kernel
theorem dX0_exchangesFrom_87 : decode cX0_exchangesFrom 87 = .ok (.goto (-79), 3) := by decide +kernel
theorem dX0_exchangesFrom_90 : decode cX0_exchangesFrom 90 = .ok (.iload_n 2, 1) := by decide +kernel
theorem dX0_exchangesFrom_91 : decode cX0_exchangesFrom 91 = .ok (.iload_n 3, 1) := by decide +kernel
theorem dX0_exchangesFrom_92 : decode cX0_exchangesFrom 92 = .ok (.isub, 1) := by decide +kernel
theorem dX0_exchangesFrom_93 : decode cX0_exchangesFrom 93 = .ok (.ireturn, 1) := by decide +kernel
theorem dX1_init_0 : decode cX1_init 0 = .ok (.aload_n 0, 1) := by decide +kernel
theorem dX1_init_1 : decode cX1_init 1 = .ok (.invokespecial 3, 3) := by decide +kernel
theorem dX1_init_4 : decode cX1_init 4 = .ok (.aload_n 0, 1) := by decide +kernel
theorem dX1_init_5 : decode cX1_init 5 = .ok (.bipush 24, 2) := by decide +kernel
theorem dX1_init_7 : decode cX1_init 7 = .ok (.newarray .int, 2) := by decide +kernel
theorem dX1_init_9 : decode cX1_init 9 = .ok (.putfield 9, 3) := by decide +kernel
theorem dX1_init_12 : decode cX1_init 12 = .ok (.return_, 1) := by decide +kernel
theorem dX1_add_0 : decode cX1_add 0 = .ok (.aload_n 0, 1) := by decide +kernel
theorem dX1_add_1 : decode cX1_add 1 = .ok (.getfield 15, 3) := by decide +kernel
theorem dX1_add_4 : decode cX1_add 4 = .ok (.ifCond .lt 35, 3) := by decide +kernel
theorem dX1_add_7 : decode cX1_add 7 = .ok (.aload_n 0, 1) := by decide +kernel
theorem dX1_add_8 : decode cX1_add 8 = .ok (.getfield 15, 3) := by decide +kernel
theorem dX1_add_11 : decode cX1_add 11 = .ok (.aload_n 0, 1) := by decide +kernel
theorem dX1_add_12 : decode cX1_add 12 = .ok (.getfield 9, 3) := by decide +kernel
theorem dX1_add_15 : decode cX1_add 15 = .ok (.arraylength, 1) := by decide +kernel
theorem dX1_add_16 : decode cX1_add 16 = .ok (.if_icmp .ge 23, 3) := by decide +kernel
theorem dX1_add_19 : decode cX1_add 19 = .ok (.aload_n 0, 1) := by decide +kernel
theorem dX1_add_20 : decode cX1_add 20 = .ok (.getfield 9, 3) := by decide +kernel
theorem dX1_add_23 : decode cX1_add 23 = .ok (.aload_n 0, 1) := by decide +kernel
theorem dX1_add_24 : decode cX1_add 24 = .ok (.getfield 15, 3) := by decide +kernel
theorem dX1_add_27 : decode cX1_add 27 = .ok (.iload_n 1, 1) := by decide +kernel
theorem dX1_add_28 : decode cX1_add 28 = .ok (.iastore, 1) := by decide +kernel
theorem dX1_add_29 : decode cX1_add 29 = .ok (.aload_n 0, 1) := by decide +kernel
theorem dX1_add_30 : decode cX1_add 30 = .ok (.dup, 1) := by decide +kernel
theorem dX1_add_31 : decode cX1_add 31 = .ok (.getfield 15, 3) := by decide +kernel
theorem dX1_add_34 : decode cX1_add 34 = .ok (.iconst 1, 1) := by decide +kernel
theorem dX1_add_35 : decode cX1_add 35 = .ok (.iadd, 1) := by decide +kernel
theorem dX1_add_36 : decode cX1_add 36 = .ok (.putfield 15, 3) := by decide +kernel
theorem dX1_add_39 : decode cX1_add 39 = .ok (.return_, 1) := by decide +kernel
theorem dX1_codeAt_0 : decode cX1_codeAt 0 = .ok (.iload_n 1, 1) := by decide +kernel
theorem dX1_codeAt_1 : decode cX1_codeAt 1 = .ok (.ifCond .lt 20, 3) := by decide +kernel
theorem dX1_codeAt_4 : decode cX1_codeAt 4 = .ok (.iload_n 1, 1) := by decide +kernel
theorem dX1_codeAt_5 : decode cX1_codeAt 5 = .ok (.aload_n 0, 1) := by decide +kernel
theorem dX1_codeAt_6 : decode cX1_codeAt 6 = .ok (.getfield 15, 3) := by decide +kernel
theorem dX1_codeAt_9 : decode cX1_codeAt 9 = .ok (.if_icmp .ge 12, 3) := by decide +kernel
theorem dX1_codeAt_12 : decode cX1_codeAt 12 = .ok (.aload_n 0, 1) := by decide +kernel
theorem dX1_codeAt_13 : decode cX1_codeAt 13 = .ok (.getfield 9, 3) := by decide +kernel
theorem dX1_codeAt_16 : decode cX1_codeAt 16 = .ok (.iload_n 1, 1) := by decide +kernel
theorem dX1_codeAt_17 : decode cX1_codeAt 17 = .ok (.iaload, 1) := by decide +kernel
theorem dX1_codeAt_18 : decode cX1_codeAt 18 = .ok (.goto 4, 3) := by decide +kernel
theorem dX1_codeAt_21 : decode cX1_codeAt 21 = .ok (.iconst 0, 1) := by decide +kernel
theorem dX1_codeAt_22 : decode cX1_codeAt 22 = .ok (.ireturn, 1) := by decide +kernel
set_option maxRecDepth 20000 in
theorem ggX1_digitAt_X1_codeAt : GoodIn wsX1_digitAt wsX1_codeAt := goodIn_r _ [5, 6, 7, 8, 9] (by decide +kernel) (by decide +kernel)
set_option maxRecDepth 20000 in
theorem gX1_digitAt_X1_codeAt : GoodIn wsX1_digitAt (wsV RX1 19 RX1 yX1_codeAt wsX1_codeAt) := goodIn_app (goodIn_of _ (by decide +kernel)) ggX1_digitAt_X1_codeAt
theorem dX1_digitAt_0 : decode cX1_digitAt 0 = .ok (.aload_n 0, 1) := by decide +kernel
theorem dX1_digitAt_1 : decode cX1_digitAt 1 = .ok (.iload_n 1, 1) := by decide +kernel
theorem dX1_digitAt_2 : decode cX1_digitAt 2 = .ok (.invokevirtual 19, 3) := by decide +kernel
theorem dX1_digitAt_5 : decode cX1_digitAt 5 = .ok (.bipush 48, 2) := by decide +kernel
theorem dX1_digitAt_7 : decode cX1_digitAt 7 = .ok (.isub, 1) := by decide +kernel
theorem dX1_digitAt_8 : decode cX1_digitAt 8 = .ok (.ireturn, 1) := by decide +kernel
set_option maxRecDepth 20000 in
theorem ggX1_hooksTold_X1_codeAt : GoodIn wsX1_hooksTold wsX1_codeAt := goodIn_r _ [6, 1, 7, 8, 9] (by decide +kernel) (by decide +kernel)
set_option maxRecDepth 20000 in
theorem gX1_hooksTold_X1_codeAt : GoodIn wsX1_hooksTold (wsV RX1 19 RX1 yX1_codeAt wsX1_codeAt) := goodIn_app (goodIn_of _ (by decide +kernel)) ggX1_hooksTold_X1_codeAt
theorem dX1_hooksTold_0 : decode cX1_hooksTold 0 = .ok (.iconst 0, 1) := by decide +kernel
theorem dX1_hooksTold_1 : decode cX1_hooksTold 1 = .ok (.istore_n 1, 1) := by decide +kernel
theorem dX1_hooksTold_2 : decode cX1_hooksTold 2 = .ok (.iload_n 1, 1) := by decide +kernel
theorem dX1_hooksTold_3 : decode cX1_hooksTold 3 = .ok (.aload_n 0, 1) := by decide +kernel
theorem dX1_hooksTold_4 : decode cX1_hooksTold 4 = .ok (.getfield 15, 3) := by decide +kernel
theorem dX1_hooksTold_7 : decode cX1_hooksTold 7 = .ok (.if_icmp .ge 25, 3) := by decide +kernel
theorem dX1_hooksTold_10 : decode cX1_hooksTold 10 = .ok (.aload_n 0, 1) := by decide +kernel
theorem dX1_hooksTold_11 : decode cX1_hooksTold 11 = .ok (.iload_n 1, 1) := by decide +kernel
theorem dX1_hooksTold_12 : decode cX1_hooksTold 12 = .ok (.invokevirtual 19, 3) := by decide +kernel
theorem dX1_hooksTold_15 : decode cX1_hooksTold 15 = .ok (.bipush 59, 2) := by decide +kernel
theorem dX1_hooksTold_17 : decode cX1_hooksTold 17 = .ok (.if_icmp .ne 9, 3) := by decide +kernel
theorem dX1_hooksTold_20 : decode cX1_hooksTold 20 = .ok (.iload_n 1, 1) := by decide +kernel
theorem dX1_hooksTold_21 : decode cX1_hooksTold 21 = .ok (.iconst 1, 1) := by decide +kernel
theorem dX1_hooksTold_22 : decode cX1_hooksTold 22 = .ok (.iadd, 1) := by decide +kernel
theorem dX1_hooksTold_23 : decode cX1_hooksTold 23 = .ok (.iconst 3, 1) := by decide +kernel
theorem dX1_hooksTold_24 : decode cX1_hooksTold 24 = .ok (.idiv, 1) := by decide +kernel
theorem dX1_hooksTold_25 : decode cX1_hooksTold 25 = .ok (.ireturn, 1) := by decide +kernel
theorem dX1_hooksTold_26 : decode cX1_hooksTold 26 = .ok (.iinc 1 1, 3) := by decide +kernel
theorem dX1_hooksTold_29 : decode cX1_hooksTold 29 = .ok (.goto (-27), 3) := by decide +kernel
theorem dX1_hooksTold_32 : decode cX1_hooksTold 32 = .ok (.iconst 0, 1) := by decide +kernel
theorem dX1_hooksTold_33 : decode cX1_hooksTold 33 = .ok (.ireturn, 1) := by decide +kernel
set_option maxRecDepth 20000 in
theorem ggX1_isFloor_X1_hooksTold : GoodIn wsX1_isFloor wsX1_hooksTold := goodIn_r _ [6, 1, 7, 8, 9, 5, 10, 11, 19, 20] (by decide +kernel) (by decide +kernel)
set_option maxRecDepth 20000 in
theorem gX1_isFloor_X1_hooksTold : GoodIn wsX1_isFloor (wsV RX1 23 RX1 yX1_hooksTold wsX1_hooksTold) := goodIn_app (goodIn_of _ (by decide +kernel)) ggX1_isFloor_X1_hooksTold
set_option maxRecDepth 20000 in
theorem ggX1_isFloor_X1_firstWrong : GoodIn wsX1_isFloor wsX1_firstWrong := goodIn_r _ [15, 1, 7, 8, 9, 5, 10, 11, 16, 17, 18, 19, 20] (by decide +kernel) (by decide +kernel)
set_option maxRecDepth 20000 in
theorem gX1_isFloor_X1_firstWrong : GoodIn wsX1_isFloor (wsV RX1 27 RX1 yX1_firstWrong wsX1_firstWrong) := goodIn_app (goodIn_of _ (by decide +kernel)) ggX1_isFloor_X1_firstWrong
theorem dX1_isFloor_0 : decode cX1_isFloor 0 = .ok (.aload_n 0, 1) := by decide +kernel
theorem dX1_isFloor_1 : decode cX1_isFloor 1 = .ok (.invokevirtual 23, 3) := by decide +kernel
theorem dX1_isFloor_4 : decode cX1_isFloor 4 = .ok (.istore_n 1, 1) := by decide +kernel
theorem dX1_isFloor_5 : decode cX1_isFloor 5 = .ok (.iload_n 1, 1) := by decide +kernel
theorem dX1_isFloor_6 : decode cX1_isFloor 6 = .ok (.ifCond .le 28, 3) := by decide +kernel
theorem dX1_isFloor_9 : decode cX1_isFloor 9 = .ok (.aload_n 0, 1) := by decide +kernel
theorem dX1_isFloor_10 : decode cX1_isFloor 10 = .ok (.getfield 15, 3) := by decide +kernel
theorem dX1_isFloor_13 : decode cX1_isFloor 13 = .ok (.iconst 4, 1) := by decide +kernel
theorem dX1_isFloor_14 : decode cX1_isFloor 14 = .ok (.iload_n 1, 1) := by decide +kernel
theorem dX1_isFloor_15 : decode cX1_isFloor 15 = .ok (.imul, 1) := by decide +kernel
theorem dX1_isFloor_16 : decode cX1_isFloor 16 = .ok (.if_icmp .ne 18, 3) := by decide +kernel
theorem dX1_isFloor_19 : decode cX1_isFloor 19 = .ok (.aload_n 0, 1) := by decide +kernel
theorem dX1_isFloor_20 : decode cX1_isFloor 20 = .ok (.invokevirtual 27, 3) := by decide +kernel
theorem dX1_isFloor_23 : decode cX1_isFloor 23 = .ok (.aload_n 0, 1) := by decide +kernel
theorem dX1_isFloor_24 : decode cX1_isFloor 24 = .ok (.getfield 15, 3) := by decide +kernel
theorem dX1_isFloor_27 : decode cX1_isFloor 27 = .ok (.if_icmp .ne 7, 3) := by decide +kernel
theorem dX1_isFloor_30 : decode cX1_isFloor 30 = .ok (.iconst 1, 1) := by decide +kernel
theorem dX1_isFloor_31 : decode cX1_isFloor 31 = .ok (.goto 4, 3) := by decide +kernel
theorem dX1_isFloor_34 : decode cX1_isFloor 34 = .ok (.iconst 0, 1) := by decide +kernel
theorem dX1_isFloor_35 : decode cX1_isFloor 35 = .ok (.ireturn, 1) := by decide +kernel
set_option maxRecDepth 20000 in
theorem ggX1_firstWrong_X1_codeAt : GoodIn wsX1_firstWrong wsX1_codeAt := goodIn_r _ [6, 1, 7, 11, 12] (by decide +kernel) (by decide +kernel)
set_option maxRecDepth 20000 in
theorem gX1_firstWrong_X1_codeAt : GoodIn wsX1_firstWrong (wsV RX1 19 RX1 yX1_codeAt wsX1_codeAt) := goodIn_app (goodIn_of _ (by decide +kernel)) ggX1_firstWrong_X1_codeAt
set_option maxRecDepth 20000 in
theorem ggX1_firstWrong_X1_canTellOfHooks : GoodIn wsX1_firstWrong wsX1_canTellOfHooks := goodIn_r _ [10] (by decide +kernel) (by decide +kernel)
set_option maxRecDepth 20000 in
theorem gX1_firstWrong_X1_canTellOfHooks : GoodIn wsX1_firstWrong (va_wsS RX1 30 yX1_canTellOfHooks wsX1_canTellOfHooks) := goodIn_app (goodIn_of _ (by decide +kernel)) ggX1_firstWrong_X1_canTellOfHooks
theorem dX1_firstWrong_0 : decode cX1_firstWrong 0 = .ok (.iconst 0, 1) := by decide +kernel
theorem dX1_firstWrong_1 : decode cX1_firstWrong 1 = .ok (.istore_n 1, 1) := by decide +kernel
theorem dX1_firstWrong_2 : decode cX1_firstWrong 2 = .ok (.iconst 0, 1) := by decide +kernel
theorem dX1_firstWrong_3 : decode cX1_firstWrong 3 = .ok (.istore_n 2, 1) := by decide +kernel
theorem dX1_firstWrong_4 : decode cX1_firstWrong 4 = .ok (.iload_n 2, 1) := by decide +kernel
theorem dX1_firstWrong_5 : decode cX1_firstWrong 5 = .ok (.aload_n 0, 1) := by decide +kernel
theorem dX1_firstWrong_6 : decode cX1_firstWrong 6 = .ok (.getfield 15, 3) := by decide +kernel
theorem dX1_firstWrong_9 : decode cX1_firstWrong 9 = .ok (.if_icmp .ge 62, 3) := by decide +kernel
theorem dX1_firstWrong_12 : decode cX1_firstWrong 12 = .ok (.aload_n 0, 1) := by decide +kernel
theorem dX1_firstWrong_13 : decode cX1_firstWrong 13 = .ok (.iload_n 2, 1) := by decide +kernel
theorem dX1_firstWrong_14 : decode cX1_firstWrong 14 = .ok (.invokevirtual 19, 3) := by decide +kernel
theorem dX1_firstWrong_17 : decode cX1_firstWrong 17 = .ok (.istore_n 3, 1) := by decide +kernel
theorem dX1_firstWrong_18 : decode cX1_firstWrong 18 = .ok (.iload_n 1, 1) := by decide +kernel
theorem dX1_firstWrong_19 : decode cX1_firstWrong 19 = .ok (.ifCond .le 24, 3) := by decide +kernel
theorem dX1_firstWrong_22 : decode cX1_firstWrong 22 = .ok (.iload_n 2, 1) := by decide +kernel
theorem dX1_firstWrong_23 : decode cX1_firstWrong 23 = .ok (.iconst 4, 1) := by decide +kernel
theorem dX1_firstWrong_24 : decode cX1_firstWrong 24 = .ok (.iload_n 1, 1) := by decide +kernel
theorem dX1_firstWrong_25 : decode cX1_firstWrong 25 = .ok (.imul, 1) := by decide +kernel
theorem dX1_firstWrong_26 : decode cX1_firstWrong 26 = .ok (.if_icmp .ge 15, 3) := by decide +kernel
theorem dX1_firstWrong_29 : decode cX1_firstWrong 29 = .ok (.iload_n 3, 1) := by decide +kernel
theorem dX1_firstWrong_30 : decode cX1_firstWrong 30 = .ok (.bipush 48, 2) := by decide +kernel
theorem dX1_firstWrong_32 : decode cX1_firstWrong 32 = .ok (.if_icmp .lt 9, 3) := by decide +kernel
theorem dX1_firstWrong_35 : decode cX1_firstWrong 35 = .ok (.iload_n 3, 1) := by decide +kernel
theorem dX1_firstWrong_36 : decode cX1_firstWrong 36 = .ok (.bipush 57, 2) := by decide +kernel
theorem dX1_firstWrong_38 : decode cX1_firstWrong 38 = .ok (.if_icmp .le 27, 3) := by decide +kernel
theorem dX1_firstWrong_41 : decode cX1_firstWrong 41 = .ok (.iload_n 2, 1) := by decide +kernel
theorem dX1_firstWrong_42 : decode cX1_firstWrong 42 = .ok (.ireturn, 1) := by decide +kernel
theorem dX1_firstWrong_43 : decode cX1_firstWrong 43 = .ok (.iload_n 2, 1) := by decide +kernel
theorem dX1_firstWrong_44 : decode cX1_firstWrong 44 = .ok (.iload_n 3, 1) := by decide +kernel
theorem dX1_firstWrong_45 : decode cX1_firstWrong 45 = .ok (.invokestatic 30, 3) := by decide +kernel
theorem dX1_firstWrong_48 : decode cX1_firstWrong 48 = .ok (.ifCond .ne 5, 3) := by decide +kernel
theorem dX1_firstWrong_51 : decode cX1_firstWrong 51 = .ok (.iload_n 2, 1) := by decide +kernel
theorem dX1_firstWrong_52 : decode cX1_firstWrong 52 = .ok (.ireturn, 1) := by decide +kernel
theorem dX1_firstWrong_53 : decode cX1_firstWrong 53 = .ok (.iload_n 3, 1) := by decide +kernel
theorem dX1_firstWrong_54 : decode cX1_firstWrong 54 = .ok (.bipush 59, 2) := by decide +kernel
theorem dX1_firstWrong_56 : decode cX1_firstWrong 56 = .ok (.if_icmp .ne 9, 3) := by decide +kernel
theorem dX1_firstWrong_59 : decode cX1_firstWrong 59 = .ok (.iload_n 2, 1) := by decide +kernel
theorem dX1_firstWrong_60 : decode cX1_firstWrong 60 = .ok (.iconst 1, 1) := by decide +kernel
theorem dX1_firstWrong_61 : decode cX1_firstWrong 61 = .ok (.iadd, 1) := by decide +kernel
theorem dX1_firstWrong_62 : decode cX1_firstWrong 62 = .ok (.iconst 3, 1) := by decide +kernel
theorem dX1_firstWrong_63 : decode cX1_firstWrong 63 = .ok (.idiv, 1) := by decide +kernel
theorem dX1_firstWrong_64 : decode cX1_firstWrong 64 = .ok (.istore_n 1, 1) := by decide +kernel
theorem dX1_firstWrong_65 : decode cX1_firstWrong 65 = .ok (.iinc 2 1, 3) := by decide +kernel
theorem dX1_firstWrong_68 : decode cX1_firstWrong 68 = .ok (.goto (-64), 3) := by decide +kernel
theorem dX1_firstWrong_71 : decode cX1_firstWrong 71 = .ok (.aload_n 0, 1) := by decide +kernel
theorem dX1_firstWrong_72 : decode cX1_firstWrong 72 = .ok (.getfield 15, 3) := by decide +kernel
theorem dX1_firstWrong_75 : decode cX1_firstWrong 75 = .ok (.ireturn, 1) := by decide +kernel
theorem dX1_canTellOfHooks_0 : decode cX1_canTellOfHooks 0 = .ok (.iload_n 0, 1) := by decide +kernel
theorem dX1_canTellOfHooks_1 : decode cX1_canTellOfHooks 1 = .ok (.iconst 3, 1) := by decide +kernel
theorem dX1_canTellOfHooks_2 : decode cX1_canTellOfHooks 2 = .ok (.irem, 1) := by decide +kernel
theorem dX1_canTellOfHooks_3 : decode cX1_canTellOfHooks 3 = .ok (.ifCond .ne 21, 3) := by decide +kernel
theorem dX1_canTellOfHooks_6 : decode cX1_canTellOfHooks 6 = .ok (.iload_n 1, 1) := by decide +kernel
theorem dX1_canTellOfHooks_7 : decode cX1_canTellOfHooks 7 = .ok (.bipush 49, 2) := by decide +kernel
theorem dX1_canTellOfHooks_9 : decode cX1_canTellOfHooks 9 = .ok (.if_icmp .lt 13, 3) := by decide +kernel
theorem dX1_canTellOfHooks_12 : decode cX1_canTellOfHooks 12 = .ok (.iload_n 1, 1) := by decide +kernel
theorem dX1_canTellOfHooks_13 : decode cX1_canTellOfHooks 13 = .ok (.bipush 56, 2) := by decide +kernel
theorem dX1_canTellOfHooks_15 : decode cX1_canTellOfHooks 15 = .ok (.if_icmp .gt 7, 3) := by decide +kernel
theorem dX1_canTellOfHooks_18 : decode cX1_canTellOfHooks 18 = .ok (.iconst 1, 1) := by decide +kernel
theorem dX1_canTellOfHooks_19 : decode cX1_canTellOfHooks 19 = .ok (.goto 4, 3) := by decide +kernel
theorem dX1_canTellOfHooks_22 : decode cX1_canTellOfHooks 22 = .ok (.iconst 0, 1) := by decide +kernel
theorem dX1_canTellOfHooks_23 : decode cX1_canTellOfHooks 23 = .ok (.ireturn, 1) := by decide +kernel
theorem dX1_canTellOfHooks_24 : decode cX1_canTellOfHooks 24 = .ok (.iload_n 0, 1) := by decide +kernel
theorem dX1_canTellOfHooks_25 : decode cX1_canTellOfHooks 25 = .ok (.iconst 3, 1) := by decide +kernel
theorem dX1_canTellOfHooks_26 : decode cX1_canTellOfHooks 26 = .ok (.irem, 1) := by decide +kernel
theorem dX1_canTellOfHooks_27 : decode cX1_canTellOfHooks 27 = .ok (.iconst 1, 1) := by decide +kernel
theorem dX1_canTellOfHooks_28 : decode cX1_canTellOfHooks 28 = .ok (.if_icmp .ne 21, 3) := by decide +kernel
theorem dX1_canTellOfHooks_31 : decode cX1_canTellOfHooks 31 = .ok (.iload_n 1, 1) := by decide +kernel
theorem dX1_canTellOfHooks_32 : decode cX1_canTellOfHooks 32 = .ok (.bipush 49, 2) := by decide +kernel
theorem dX1_canTellOfHooks_34 : decode cX1_canTellOfHooks 34 = .ok (.if_icmp .lt 13, 3) := by decide +kernel
theorem dX1_canTellOfHooks_37 : decode cX1_canTellOfHooks 37 = .ok (.iload_n 1, 1) := by decide +kernel
theorem dX1_canTellOfHooks_38 : decode cX1_canTellOfHooks 38 = .ok (.bipush 57, 2) := by decide +kernel
theorem dX1_canTellOfHooks_40 : decode cX1_canTellOfHooks 40 = .ok (.if_icmp .gt 7, 3) := by decide +kernel
theorem dX1_canTellOfHooks_43 : decode cX1_canTellOfHooks 43 = .ok (.iconst 1, 1) := by decide +kernel
theorem dX1_canTellOfHooks_44 : decode cX1_canTellOfHooks 44 = .ok (.goto 4, 3) := by decide +kernel
theorem dX1_canTellOfHooks_47 : decode cX1_canTellOfHooks 47 = .ok (.iconst 0, 1) := by decide +kernel
theorem dX1_canTellOfHooks_48 : decode cX1_canTellOfHooks 48 = .ok (.ireturn, 1) := by decide +kernel
theorem dX1_canTellOfHooks_49 : decode cX1_canTellOfHooks 49 = .ok (.iload_n 0, 1) := by decide +kernel
theorem dX1_canTellOfHooks_50 : decode cX1_canTellOfHooks 50 = .ok (.iconst 1, 1) := by decide +kernel
theorem dX1_canTellOfHooks_51 : decode cX1_canTellOfHooks 51 = .ok (.iadd, 1) := by decide +kernel
theorem dX1_canTellOfHooks_52 : decode cX1_canTellOfHooks 52 = .ok (.iconst 3, 1) := by decide +kernel
theorem dX1_canTellOfHooks_53 : decode cX1_canTellOfHooks 53 = .ok (.idiv, 1) := by decide +kernel
theorem dX1_canTellOfHooks_54 : decode cX1_canTellOfHooks 54 = .ok (.istore_n 2, 1) := by decide +kernel
theorem dX1_canTellOfHooks_55 : decode cX1_canTellOfHooks 55 = .ok (.iload_n 1, 1) := by decide +kernel
theorem dX1_canTellOfHooks_56 : decode cX1_canTellOfHooks 56 = .ok (.bipush 44, 2) := by decide +kernel
theorem dX1_canTellOfHooks_58 : decode cX1_canTellOfHooks 58 = .ok (.if_icmp .ne 17, 3) := by decide +kernel
theorem dX1_canTellOfHooks_61 : decode cX1_canTellOfHooks 61 = .ok (.iload_n 2, 1) := by decide +kernel
theorem dX1_canTellOfHooks_62 : decode cX1_canTellOfHooks 62 = .ok (.bipush 6, 2) := by decide +kernel
theorem dX1_canTellOfHooks_64 : decode cX1_canTellOfHooks 64 = .ok (.if_icmp .ge 7, 3) := by decide +kernel
theorem dX1_canTellOfHooks_67 : decode cX1_canTellOfHooks 67 = .ok (.iconst 1, 1) := by decide +kernel
theorem dX1_canTellOfHooks_68 : decode cX1_canTellOfHooks 68 = .ok (.goto 23, 3) := by decide +kernel
theorem dX1_canTellOfHooks_71 : decode cX1_canTellOfHooks 71 = .ok (.iconst 0, 1) := by decide +kernel
theorem dX1_canTellOfHooks_72 : decode cX1_canTellOfHooks 72 = .ok (.goto 19, 3) := by decide +kernel
theorem dX1_canTellOfHooks_75 : decode cX1_canTellOfHooks 75 = .ok (.iload_n 1, 1) := by decide +kernel
theorem dX1_canTellOfHooks_76 : decode cX1_canTellOfHooks 76 = .ok (.bipush 59, 2) := by decide +kernel
theorem dX1_canTellOfHooks_78 : decode cX1_canTellOfHooks 78 = .ok (.if_icmp .ne 12, 3) := by decide +kernel
theorem dX1_canTellOfHooks_81 : decode cX1_canTellOfHooks 81 = .ok (.iload_n 2, 1) := by decide +kernel
theorem dX1_canTellOfHooks_82 : decode cX1_canTellOfHooks 82 = .ok (.iconst 3, 1) := by decide +kernel
theorem dX1_canTellOfHooks_83 : decode cX1_canTellOfHooks 83 = .ok (.if_icmp .lt 7, 3) := by decide +kernel
theorem dX1_canTellOfHooks_86 : decode cX1_canTellOfHooks 86 = .ok (.iconst 1, 1) := by decide +kernel
theorem dX1_canTellOfHooks_87 : decode cX1_canTellOfHooks 87 = .ok (.goto 4, 3) := by decide +kernel
theorem dX1_canTellOfHooks_90 : decode cX1_canTellOfHooks 90 = .ok (.iconst 0, 1) := by decide +kernel
theorem dX1_canTellOfHooks_91 : decode cX1_canTellOfHooks 91 = .ok (.ireturn, 1) := by decide +kernel
theorem dX2_init_0 : decode cX2_init 0 = .ok (.aload_n 0, 1) := by decide +kernel
theorem dX2_init_1 : decode cX2_init 1 = .ok (.invokespecial 3, 3) := by decide +kernel
theorem dX2_init_4 : decode cX2_init 4 = .ok (.aload_n 0, 1) := by decide +kernel
theorem dX2_init_5 : decode cX2_init 5 = .ok (.bipush 6, 2) := by decide +kernel
theorem dX2_init_7 : decode cX2_init 7 = .ok (.newarray .int, 2) := by decide +kernel
theorem dX2_init_9 : decode cX2_init 9 = .ok (.putfield 9, 3) := by decide +kernel
theorem dX2_init_12 : decode cX2_init 12 = .ok (.aload_n 0, 1) := by decide +kernel
theorem dX2_init_13 : decode cX2_init 13 = .ok (.bipush 6, 2) := by decide +kernel
theorem dX2_init_15 : decode cX2_init 15 = .ok (.newarray .int, 2) := by decide +kernel
theorem dX2_init_17 : decode cX2_init 17 = .ok (.putfield 15, 3) := by decide +kernel
theorem dX2_init_20 : decode cX2_init 20 = .ok (.aload_n 0, 1) := by decide +kernel
theorem dX2_init_21 : decode cX2_init 21 = .ok (.bipush 6, 2) := by decide +kernel
theorem dX2_init_23 : decode cX2_init 23 = .ok (.newarray .int, 2) := by decide +kernel
theorem dX2_init_25 : decode cX2_init 25 = .ok (.putfield 18, 3) := by decide +kernel
theorem dX2_init_28 : decode cX2_init 28 = .ok (.return_, 1) := by decide +kernel
set_option maxRecDepth 20000 in
theorem ggX2_read_X1_hooksTold : GoodIn wsX2_read wsX1_hooksTold := goodIn_r _ [13, 14, 15, 16, 17, 12, 18, 19, 28, 29] (by decide +kernel) (by decide +kernel)
set_option maxRecDepth 20000 in
theorem gX2_read_X1_hooksTold : GoodIn wsX2_read (wsV RX2 21 RX1 yX1_hooksTold wsX1_hooksTold) := goodIn_app (goodIn_of _ (by decide +kernel)) ggX2_read_X1_hooksTold
set_option maxRecDepth 20000 in
theorem ggX2_read_X1_digitAt : GoodIn wsX2_read wsX1_digitAt := goodIn_r _ [23, 15, 16, 17, 12, 18, 14, 19, 28, 29] (by decide +kernel) (by decide +kernel)
set_option maxRecDepth 20000 in
theorem gX2_read_X1_digitAt : GoodIn wsX2_read (wsV RX2 37 RX1 yX1_digitAt wsX1_digitAt) := goodIn_app (goodIn_of _ (by decide +kernel)) ggX2_read_X1_digitAt
theorem dX2_read_0 : decode cX2_read 0 = .ok (.aload_n 0, 1) := by decide +kernel
theorem dX2_read_1 : decode cX2_read 1 = .ok (.aload_n 1, 1) := by decide +kernel
theorem dX2_read_2 : decode cX2_read 2 = .ok (.invokevirtual 21, 3) := by decide +kernel
theorem dX2_read_5 : decode cX2_read 5 = .ok (.bipush 6, 2) := by decide +kernel
theorem dX2_read_7 : decode cX2_read 7 = .ok (.invokestatic 27, 3) := by decide +kernel
theorem dX2_read_10 : decode cX2_read 10 = .ok (.putfield 33, 3) := by decide +kernel
theorem dX2_read_13 : decode cX2_read 13 = .ok (.iconst 0, 1) := by decide +kernel
theorem dX2_read_14 : decode cX2_read 14 = .ok (.istore_n 2, 1) := by decide +kernel
theorem dX2_read_15 : decode cX2_read 15 = .ok (.iload_n 2, 1) := by decide +kernel
theorem dX2_read_16 : decode cX2_read 16 = .ok (.aload_n 0, 1) := by decide +kernel
theorem dX2_read_17 : decode cX2_read 17 = .ok (.getfield 33, 3) := by decide +kernel
theorem dX2_read_20 : decode cX2_read 20 = .ok (.if_icmp .ge 55, 3) := by decide +kernel
theorem dX2_read_23 : decode cX2_read 23 = .ok (.aload_n 0, 1) := by decide +kernel
theorem dX2_read_24 : decode cX2_read 24 = .ok (.getfield 9, 3) := by decide +kernel
theorem dX2_read_27 : decode cX2_read 27 = .ok (.iload_n 2, 1) := by decide +kernel
theorem dX2_read_28 : decode cX2_read 28 = .ok (.aload_n 1, 1) := by decide +kernel
theorem dX2_read_29 : decode cX2_read 29 = .ok (.iconst 3, 1) := by decide +kernel
theorem dX2_read_30 : decode cX2_read 30 = .ok (.iload_n 2, 1) := by decide +kernel
theorem dX2_read_31 : decode cX2_read 31 = .ok (.imul, 1) := by decide +kernel
theorem dX2_read_32 : decode cX2_read 32 = .ok (.invokevirtual 37, 3) := by decide +kernel
theorem dX2_read_35 : decode cX2_read 35 = .ok (.iastore, 1) := by decide +kernel
theorem dX2_read_36 : decode cX2_read 36 = .ok (.aload_n 0, 1) := by decide +kernel
theorem dX2_read_37 : decode cX2_read 37 = .ok (.getfield 15, 3) := by decide +kernel
theorem dX2_read_40 : decode cX2_read 40 = .ok (.iload_n 2, 1) := by decide +kernel
theorem dX2_read_41 : decode cX2_read 41 = .ok (.aload_n 1, 1) := by decide +kernel
theorem dX2_read_42 : decode cX2_read 42 = .ok (.iconst 3, 1) := by decide +kernel
theorem dX2_read_43 : decode cX2_read 43 = .ok (.iload_n 2, 1) := by decide +kernel
theorem dX2_read_44 : decode cX2_read 44 = .ok (.imul, 1) := by decide +kernel
theorem dX2_read_45 : decode cX2_read 45 = .ok (.iconst 1, 1) := by decide +kernel
theorem dX2_read_46 : decode cX2_read 46 = .ok (.iadd, 1) := by decide +kernel
theorem dX2_read_47 : decode cX2_read 47 = .ok (.invokevirtual 37, 3) := by decide +kernel
theorem dX2_read_50 : decode cX2_read 50 = .ok (.iastore, 1) := by decide +kernel
theorem dX2_read_51 : decode cX2_read 51 = .ok (.aload_n 0, 1) := by decide +kernel
theorem dX2_read_52 : decode cX2_read 52 = .ok (.getfield 18, 3) := by decide +kernel
theorem dX2_read_55 : decode cX2_read 55 = .ok (.iload_n 2, 1) := by decide +kernel
theorem dX2_read_56 : decode cX2_read 56 = .ok (.aload_n 1, 1) := by decide +kernel
theorem dX2_read_57 : decode cX2_read 57 = .ok (.iconst 3, 1) := by decide +kernel
theorem dX2_read_58 : decode cX2_read 58 = .ok (.aload_n 0, 1) := by decide +kernel
theorem dX2_read_59 : decode cX2_read 59 = .ok (.getfield 33, 3) := by decide +kernel
theorem dX2_read_62 : decode cX2_read 62 = .ok (.imul, 1) := by decide +kernel
theorem dX2_read_63 : decode cX2_read 63 = .ok (.iload_n 2, 1) := by decide +kernel
theorem dX2_read_64 : decode cX2_read 64 = .ok (.iadd, 1) := by decide +kernel
theorem dX2_read_65 : decode cX2_read 65 = .ok (.invokevirtual 37, 3) := by decide +kernel
theorem dX2_read_68 : decode cX2_read 68 = .ok (.iastore, 1) := by decide +kernel
theorem dX2_read_69 : decode cX2_read 69 = .ok (.iinc 2 1, 3) := by decide +kernel
theorem dX2_read_72 : decode cX2_read 72 = .ok (.goto (-57), 3) := by decide +kernel
theorem dX2_read_75 : decode cX2_read 75 = .ok (.return_, 1) := by decide +kernel
theorem dX2_oftenOf_0 : decode cX2_oftenOf 0 = .ok (.iload_n 1, 1) := by decide +kernel
theorem dX2_oftenOf_1 : decode cX2_oftenOf 1 = .ok (.ifCond .lt 20, 3) := by decide +kernel
theorem dX2_oftenOf_4 : decode cX2_oftenOf 4 = .ok (.iload_n 1, 1) := by decide +kernel
theorem dX2_oftenOf_5 : decode cX2_oftenOf 5 = .ok (.aload_n 0, 1) := by decide +kernel
theorem dX2_oftenOf_6 : decode cX2_oftenOf 6 = .ok (.getfield 33, 3) := by decide +kernel
theorem dX2_oftenOf_9 : decode cX2_oftenOf 9 = .ok (.if_icmp .ge 12, 3) := by decide +kernel
theorem dX2_oftenOf_12 : decode cX2_oftenOf 12 = .ok (.aload_n 0, 1) := by decide +kernel
theorem dX2_oftenOf_13 : decode cX2_oftenOf 13 = .ok (.getfield 18, 3) := by decide +kernel
theorem dX2_oftenOf_16 : decode cX2_oftenOf 16 = .ok (.iload_n 1, 1) := by decide +kernel
theorem dX2_oftenOf_17 : decode cX2_oftenOf 17 = .ok (.iaload, 1) := by decide +kernel
theorem dX2_oftenOf_18 : decode cX2_oftenOf 18 = .ok (.goto 4, 3) := by decide +kernel
theorem dX2_oftenOf_21 : decode cX2_oftenOf 21 = .ok (.iconst 0, 1) := by decide +kernel
theorem dX2_oftenOf_22 : decode cX2_oftenOf 22 = .ok (.ireturn, 1) := by decide +kernel
theorem dX3_init_0 : decode cX3_init 0 = .ok (.aload_n 0, 1) := by decide +kernel
theorem dX3_init_1 : decode cX3_init 1 = .ok (.invokespecial 3, 3) := by decide +kernel
theorem dX3_init_4 : decode cX3_init 4 = .ok (.aload_n 0, 1) := by decide +kernel
theorem dX3_init_5 : decode cX3_init 5 = .ok (.bipush 9, 2) := by decide +kernel
theorem dX3_init_7 : decode cX3_init 7 = .ok (.newarray .int, 2) := by decide +kernel
theorem dX3_init_9 : decode cX3_init 9 = .ok (.putfield 9, 3) := by decide +kernel
theorem dX3_init_12 : decode cX3_init 12 = .ok (.aload_n 0, 1) := by decide +kernel
theorem dX3_init_13 : decode cX3_init 13 = .ok (.bipush 9, 2) := by decide +kernel
theorem dX3_init_15 : decode cX3_init 15 = .ok (.newarray .int, 2) := by decide +kernel
theorem dX3_init_17 : decode cX3_init 17 = .ok (.putfield 15, 3) := by decide +kernel
theorem dX3_init_20 : decode cX3_init 20 = .ok (.aload_n 0, 1) := by decide +kernel
theorem dX3_init_21 : decode cX3_init 21 = .ok (.bipush 9, 2) := by decide +kernel
theorem dX3_init_23 : decode cX3_init 23 = .ok (.newarray .boolean, 2) := by decide +kernel
theorem dX3_init_25 : decode cX3_init 25 = .ok (.putfield 18, 3) := by decide +kernel
theorem dX3_init_28 : decode cX3_init 28 = .ok (.return_, 1) := by decide +kernel
theorem dX3_add_0 : decode cX3_add 0 = .ok (.aload_n 0, 1) := by decide +kernel
theorem dX3_add_1 : decode cX3_add 1 = .ok (.getfield 22, 3) := by decide +kernel
theorem dX3_add_4 : decode cX3_add 4 = .ok (.ifCond .lt 55, 3) := by decide +kernel
theorem dX3_add_7 : decode cX3_add 7 = .ok (.aload_n 0, 1) := by decide +kernel
theorem dX3_add_8 : decode cX3_add 8 = .ok (.getfield 22, 3) := by decide +kernel
theorem dX3_add_11 : decode cX3_add 11 = .ok (.aload_n 0, 1) := by decide +kernel
theorem dX3_add_12 : decode cX3_add 12 = .ok (.getfield 9, 3) := by decide +kernel
theorem dX3_add_15 : decode cX3_add 15 = .ok (.arraylength, 1) := by decide +kernel
theorem dX3_add_16 : decode cX3_add 16 = .ok (.if_icmp .ge 43, 3) := by decide +kernel
theorem dX3_add_19 : decode cX3_add 19 = .ok (.aload_n 0, 1) := by decide +kernel
theorem dX3_add_20 : decode cX3_add 20 = .ok (.getfield 9, 3) := by decide +kernel
theorem dX3_add_23 : decode cX3_add 23 = .ok (.aload_n 0, 1) := by decide +kernel
theorem dX3_add_24 : decode cX3_add 24 = .ok (.getfield 22, 3) := by decide +kernel
theorem dX3_add_27 : decode cX3_add 27 = .ok (.iload_n 1, 1) := by decide +kernel
theorem dX3_add_28 : decode cX3_add 28 = .ok (.iastore, 1) := by decide +kernel
theorem dX3_add_29 : decode cX3_add 29 = .ok (.aload_n 0, 1) := by decide +kernel
theorem dX3_add_30 : decode cX3_add 30 = .ok (.getfield 15, 3) := by decide +kernel
theorem dX3_add_33 : decode cX3_add 33 = .ok (.aload_n 0, 1) := by decide +kernel
theorem dX3_add_34 : decode cX3_add 34 = .ok (.getfield 22, 3) := by decide +kernel
theorem dX3_add_37 : decode cX3_add 37 = .ok (.iload_n 2, 1) := by decide +kernel
theorem dX3_add_38 : decode cX3_add 38 = .ok (.iastore, 1) := by decide +kernel
theorem dX3_add_39 : decode cX3_add 39 = .ok (.aload_n 0, 1) := by decide +kernel
theorem dX3_add_40 : decode cX3_add 40 = .ok (.getfield 18, 3) := by decide +kernel
theorem dX3_add_43 : decode cX3_add 43 = .ok (.aload_n 0, 1) := by decide +kernel
theorem dX3_add_44 : decode cX3_add 44 = .ok (.getfield 22, 3) := by decide +kernel
theorem dX3_add_47 : decode cX3_add 47 = .ok (.iload_n 3, 1) := by decide +kernel
theorem dX3_add_48 : decode cX3_add 48 = .ok (.bastore, 1) := by decide +kernel
theorem dX3_add_49 : decode cX3_add 49 = .ok (.aload_n 0, 1) := by decide +kernel
theorem dX3_add_50 : decode cX3_add 50 = .ok (.dup, 1) := by decide +kernel
theorem dX3_add_51 : decode cX3_add 51 = .ok (.getfield 22, 3) := by decide +kernel
theorem dX3_add_54 : decode cX3_add 54 = .ok (.iconst 1, 1) := by decide +kernel
theorem dX3_add_55 : decode cX3_add 55 = .ok (.iadd, 1) := by decide +kernel
theorem dX3_add_56 : decode cX3_add 56 = .ok (.putfield 22, 3) := by decide +kernel
theorem dX3_add_59 : decode cX3_add 59 = .ok (.return_, 1) := by decide +kernel
theorem dX3_kindAt_0 : decode cX3_kindAt 0 = .ok (.iload_n 1, 1) := by decide +kernel
theorem dX3_kindAt_1 : decode cX3_kindAt 1 = .ok (.ifCond .lt 20, 3) := by decide +kernel
theorem dX3_kindAt_4 : decode cX3_kindAt 4 = .ok (.iload_n 1, 1) := by decide +kernel
theorem dX3_kindAt_5 : decode cX3_kindAt 5 = .ok (.aload_n 0, 1) := by decide +kernel
theorem dX3_kindAt_6 : decode cX3_kindAt 6 = .ok (.getfield 22, 3) := by decide +kernel
theorem dX3_kindAt_9 : decode cX3_kindAt 9 = .ok (.if_icmp .ge 12, 3) := by decide +kernel
theorem dX3_kindAt_12 : decode cX3_kindAt 12 = .ok (.aload_n 0, 1) := by decide +kernel
theorem dX3_kindAt_13 : decode cX3_kindAt 13 = .ok (.getfield 9, 3) := by decide +kernel
theorem dX3_kindAt_16 : decode cX3_kindAt 16 = .ok (.iload_n 1, 1) := by decide +kernel
theorem dX3_kindAt_17 : decode cX3_kindAt 17 = .ok (.iaload, 1) := by decide +kernel
theorem dX3_kindAt_18 : decode cX3_kindAt 18 = .ok (.goto 4, 3) := by decide +kernel
theorem dX3_kindAt_21 : decode cX3_kindAt 21 = .ok (.iconst (-1), 1) := by decide +kernel
theorem dX3_kindAt_22 : decode cX3_kindAt 22 = .ok (.ireturn, 1) := by decide +kernel
theorem dX3_townAt_0 : decode cX3_townAt 0 = .ok (.iload_n 1, 1) := by decide +kernel
theorem dX3_townAt_1 : decode cX3_townAt 1 = .ok (.ifCond .lt 20, 3) := by decide +kernel
theorem dX3_townAt_4 : decode cX3_townAt 4 = .ok (.iload_n 1, 1) := by decide +kernel
theorem dX3_townAt_5 : decode cX3_townAt 5 = .ok (.aload_n 0, 1) := by decide +kernel
theorem dX3_townAt_6 : decode cX3_townAt 6 = .ok (.getfield 22, 3) := by decide +kernel
theorem dX3_townAt_9 : decode cX3_townAt 9 = .ok (.if_icmp .ge 12, 3) := by decide +kernel
theorem dX3_townAt_12 : decode cX3_townAt 12 = .ok (.aload_n 0, 1) := by decide +kernel
theorem dX3_townAt_13 : decode cX3_townAt 13 = .ok (.getfield 15, 3) := by decide +kernel
theorem dX3_townAt_16 : decode cX3_townAt 16 = .ok (.iload_n 1, 1) := by decide +kernel
theorem dX3_townAt_17 : decode cX3_townAt 17 = .ok (.iaload, 1) := by decide +kernel
theorem dX3_townAt_18 : decode cX3_townAt 18 = .ok (.goto 4, 3) := by decide +kernel
theorem dX3_townAt_21 : decode cX3_townAt 21 = .ok (.iconst (-1), 1) := by decide +kernel
theorem dX3_townAt_22 : decode cX3_townAt 22 = .ok (.ireturn, 1) := by decide +kernel
theorem dX3_dropFirst_0 : decode cX3_dropFirst 0 = .ok (.iconst 1, 1) := by decide +kernel
theorem dX3_dropFirst_1 : decode cX3_dropFirst 1 = .ok (.istore_n 1, 1) := by decide +kernel
theorem dX3_dropFirst_2 : decode cX3_dropFirst 2 = .ok (.iload_n 1, 1) := by decide +kernel
theorem dX3_dropFirst_3 : decode cX3_dropFirst 3 = .ok (.aload_n 0, 1) := by decide +kernel
theorem dX3_dropFirst_4 : decode cX3_dropFirst 4 = .ok (.getfield 22, 3) := by decide +kernel
theorem dX3_dropFirst_7 : decode cX3_dropFirst 7 = .ok (.if_icmp .ge 51, 3) := by decide +kernel
theorem dX3_dropFirst_10 : decode cX3_dropFirst 10 = .ok (.aload_n 0, 1) := by decide +kernel
theorem dX3_dropFirst_11 : decode cX3_dropFirst 11 = .ok (.getfield 9, 3) := by decide +kernel
theorem dX3_dropFirst_14 : decode cX3_dropFirst 14 = .ok (.iload_n 1, 1) := by decide +kernel
theorem dX3_dropFirst_15 : decode cX3_dropFirst 15 = .ok (.iconst 1, 1) := by decide +kernel
theorem dX3_dropFirst_16 : decode cX3_dropFirst 16 = .ok (.isub, 1) := by decide +kernel
theorem dX3_dropFirst_17 : decode cX3_dropFirst 17 = .ok (.aload_n 0, 1) := by decide +kernel
theorem dX3_dropFirst_18 : decode cX3_dropFirst 18 = .ok (.getfield 9, 3) := by decide +kernel
theorem dX3_dropFirst_21 : decode cX3_dropFirst 21 = .ok (.iload_n 1, 1) := by decide +kernel
theorem dX3_dropFirst_22 : decode cX3_dropFirst 22 = .ok (.iaload, 1) := by decide +kernel
theorem dX3_dropFirst_23 : decode cX3_dropFirst 23 = .ok (.iastore, 1) := by decide +kernel
theorem dX3_dropFirst_24 : decode cX3_dropFirst 24 = .ok (.aload_n 0, 1) := by decide +kernel
theorem dX3_dropFirst_25 : decode cX3_dropFirst 25 = .ok (.getfield 15, 3) := by decide +kernel
theorem dX3_dropFirst_28 : decode cX3_dropFirst 28 = .ok (.iload_n 1, 1) := by decide +kernel
theorem dX3_dropFirst_29 : decode cX3_dropFirst 29 = .ok (.iconst 1, 1) := by decide +kernel
theorem dX3_dropFirst_30 : decode cX3_dropFirst 30 = .ok (.isub, 1) := by decide +kernel
theorem dX3_dropFirst_31 : decode cX3_dropFirst 31 = .ok (.aload_n 0, 1) := by decide +kernel
theorem dX3_dropFirst_32 : decode cX3_dropFirst 32 = .ok (.getfield 15, 3) := by decide +kernel
theorem dX3_dropFirst_35 : decode cX3_dropFirst 35 = .ok (.iload_n 1, 1) := by decide +kernel
theorem dX3_dropFirst_36 : decode cX3_dropFirst 36 = .ok (.iaload, 1) := by decide +kernel
theorem dX3_dropFirst_37 : decode cX3_dropFirst 37 = .ok (.iastore, 1) := by decide +kernel
theorem dX3_dropFirst_38 : decode cX3_dropFirst 38 = .ok (.aload_n 0, 1) := by decide +kernel
theorem dX3_dropFirst_39 : decode cX3_dropFirst 39 = .ok (.getfield 18, 3) := by decide +kernel
theorem dX3_dropFirst_42 : decode cX3_dropFirst 42 = .ok (.iload_n 1, 1) := by decide +kernel
theorem dX3_dropFirst_43 : decode cX3_dropFirst 43 = .ok (.iconst 1, 1) := by decide +kernel
theorem dX3_dropFirst_44 : decode cX3_dropFirst 44 = .ok (.isub, 1) := by decide +kernel
theorem dX3_dropFirst_45 : decode cX3_dropFirst 45 = .ok (.aload_n 0, 1) := by decide +kernel
theorem dX3_dropFirst_46 : decode cX3_dropFirst 46 = .ok (.getfield 18, 3) := by decide +kernel
theorem dX3_dropFirst_49 : decode cX3_dropFirst 49 = .ok (.iload_n 1, 1) := by decide +kernel
theorem dX3_dropFirst_50 : decode cX3_dropFirst 50 = .ok (.baload, 1) := by decide +kernel
theorem dX3_dropFirst_51 : decode cX3_dropFirst 51 = .ok (.bastore, 1) := by decide +kernel
theorem dX3_dropFirst_52 : decode cX3_dropFirst 52 = .ok (.iinc 1 1, 3) := by decide +kernel
theorem dX3_dropFirst_55 : decode cX3_dropFirst 55 = .ok (.goto (-53), 3) := by decide +kernel
theorem dX3_dropFirst_58 : decode cX3_dropFirst 58 = .ok (.aload_n 0, 1) := by decide +kernel
theorem dX3_dropFirst_59 : decode cX3_dropFirst 59 = .ok (.iconst 0, 1) := by decide +kernel
theorem dX3_dropFirst_60 : decode cX3_dropFirst 60 = .ok (.aload_n 0, 1) := by decide +kernel
theorem dX3_dropFirst_61 : decode cX3_dropFirst 61 = .ok (.getfield 22, 3) := by decide +kernel
theorem dX3_dropFirst_64 : decode cX3_dropFirst 64 = .ok (.iconst 1, 1) := by decide +kernel
theorem dX3_dropFirst_65 : decode cX3_dropFirst 65 = .ok (.isub, 1) := by decide +kernel
theorem dX3_dropFirst_66 : decode cX3_dropFirst 66 = .ok (.invokestatic 26, 3) := by decide +kernel
theorem dX3_dropFirst_69 : decode cX3_dropFirst 69 = .ok (.putfield 22, 3) := by decide +kernel
theorem dX3_dropFirst_72 : decode cX3_dropFirst 72 = .ok (.return_, 1) := by decide +kernel
theorem dX3_ofKind_0 : decode cX3_ofKind 0 = .ok (.iconst 0, 1) := by decide +kernel
theorem dX3_ofKind_1 : decode cX3_ofKind 1 = .ok (.istore_n 2, 1) := by decide +kernel
theorem dX3_ofKind_2 : decode cX3_ofKind 2 = .ok (.iconst 0, 1) := by decide +kernel
theorem dX3_ofKind_3 : decode cX3_ofKind 3 = .ok (.istore_n 3, 1) := by decide +kernel
theorem dX3_ofKind_4 : decode cX3_ofKind 4 = .ok (.iload_n 3, 1) := by decide +kernel
theorem dX3_ofKind_5 : decode cX3_ofKind 5 = .ok (.aload_n 0, 1) := by decide +kernel
theorem dX3_ofKind_6 : decode cX3_ofKind 6 = .ok (.getfield 22, 3) := by decide +kernel
theorem dX3_ofKind_9 : decode cX3_ofKind 9 = .ok (.if_icmp .ge 22, 3) := by decide +kernel
theorem dX3_ofKind_12 : decode cX3_ofKind 12 = .ok (.aload_n 0, 1) := by decide +kernel
theorem dX3_ofKind_13 : decode cX3_ofKind 13 = .ok (.getfield 9, 3) := by decide +kernel
theorem dX3_ofKind_16 : decode cX3_ofKind 16 = .ok (.iload_n 3, 1) := by decide +kernel
theorem dX3_ofKind_17 : decode cX3_ofKind 17 = .ok (.iaload, 1) := by decide +kernel
theorem dX3_ofKind_18 : decode cX3_ofKind 18 = .ok (.iload_n 1, 1) := by decide +kernel
theorem dX3_ofKind_19 : decode cX3_ofKind 19 = .ok (.if_icmp .ne 6, 3) := by decide +kernel
theorem dX3_ofKind_22 : decode cX3_ofKind 22 = .ok (.iinc 2 1, 3) := by decide +kernel
theorem dX3_ofKind_25 : decode cX3_ofKind 25 = .ok (.iinc 3 1, 3) := by decide +kernel
theorem dX3_ofKind_28 : decode cX3_ofKind 28 = .ok (.goto (-24), 3) := by decide +kernel
theorem dX3_ofKind_31 : decode cX3_ofKind 31 = .ok (.iload_n 2, 1) := by decide +kernel
theorem dX3_ofKind_32 : decode cX3_ofKind 32 = .ok (.ireturn, 1) := by decide +kernel
theorem dX3_notFor_0 : decode cX3_notFor 0 = .ok (.iconst 0, 1) := by decide +kernel
theorem dX3_notFor_1 : decode cX3_notFor 1 = .ok (.istore_n 2, 1) := by decide +kernel
theorem dX3_notFor_2 : decode cX3_notFor 2 = .ok (.iconst 0, 1) := by decide +kernel
theorem dX3_notFor_3 : decode cX3_notFor 3 = .ok (.istore_n 3, 1) := by decide +kernel
theorem dX3_notFor_4 : decode cX3_notFor 4 = .ok (.iload_n 3, 1) := by decide +kernel
theorem dX3_notFor_5 : decode cX3_notFor 5 = .ok (.aload_n 0, 1) := by decide +kernel
theorem dX3_notFor_6 : decode cX3_notFor 6 = .ok (.getfield 22, 3) := by decide +kernel
theorem dX3_notFor_9 : decode cX3_notFor 9 = .ok (.if_icmp .ge 22, 3) := by decide +kernel
theorem dX3_notFor_12 : decode cX3_notFor 12 = .ok (.aload_n 0, 1) := by decide +kernel
theorem dX3_notFor_13 : decode cX3_notFor 13 = .ok (.getfield 15, 3) := by decide +kernel
theorem dX3_notFor_16 : decode cX3_notFor 16 = .ok (.iload_n 3, 1) := by decide +kernel
theorem dX3_notFor_17 : decode cX3_notFor 17 = .ok (.iaload, 1) := by decide +kernel
theorem dX3_notFor_18 : decode cX3_notFor 18 = .ok (.iload_n 1, 1) := by decide +kernel
theorem dX3_notFor_19 : decode cX3_notFor 19 = .ok (.if_icmp .eq 6, 3) := by decide +kernel
theorem dX3_notFor_22 : decode cX3_notFor 22 = .ok (.iinc 2 1, 3) := by decide +kernel
theorem dX3_notFor_25 : decode cX3_notFor 25 = .ok (.iinc 3 1, 3) := by decide +kernel
theorem dX3_notFor_28 : decode cX3_notFor 28 = .ok (.goto (-24), 3) := by decide +kernel
theorem dX3_notFor_31 : decode cX3_notFor 31 = .ok (.iload_n 2, 1) := by decide +kernel
theorem dX3_notFor_32 : decode cX3_notFor 32 = .ok (.ireturn, 1) := by decide +kernel
theorem dX3_harmGlass_0 : decode cX3_harmGlass 0 = .ok (.iconst 0, 1) := by decide +kernel
theorem dX3_harmGlass_1 : decode cX3_harmGlass 1 = .ok (.istore_n 1, 1) := by decide +kernel
theorem dX3_harmGlass_2 : decode cX3_harmGlass 2 = .ok (.iconst 0, 1) := by decide +kernel
theorem dX3_harmGlass_3 : decode cX3_harmGlass 3 = .ok (.istore_n 2, 1) := by decide +kernel
theorem dX3_harmGlass_4 : decode cX3_harmGlass 4 = .ok (.iload_n 2, 1) := by decide +kernel
theorem dX3_harmGlass_5 : decode cX3_harmGlass 5 = .ok (.aload_n 0, 1) := by decide +kernel
theorem dX3_harmGlass_6 : decode cX3_harmGlass 6 = .ok (.getfield 22, 3) := by decide +kernel
theorem dX3_harmGlass_9 : decode cX3_harmGlass 9 = .ok (.if_icmp .ge 38, 3) := by decide +kernel
theorem dX3_harmGlass_12 : decode cX3_harmGlass 12 = .ok (.aload_n 0, 1) := by decide +kernel
theorem dX3_harmGlass_13 : decode cX3_harmGlass 13 = .ok (.getfield 9, 3) := by decide +kernel
theorem dX3_harmGlass_16 : decode cX3_harmGlass 16 = .ok (.iload_n 2, 1) := by decide +kernel
theorem dX3_harmGlass_17 : decode cX3_harmGlass 17 = .ok (.iaload, 1) := by decide +kernel
theorem dX3_harmGlass_18 : decode cX3_harmGlass 18 = .ok (.iconst 3, 1) := by decide +kernel
theorem dX3_harmGlass_19 : decode cX3_harmGlass 19 = .ok (.if_icmp .ne 22, 3) := by decide +kernel
theorem dX3_harmGlass_22 : decode cX3_harmGlass 22 = .ok (.aload_n 0, 1) := by decide +kernel
theorem dX3_harmGlass_23 : decode cX3_harmGlass 23 = .ok (.getfield 18, 3) := by decide +kernel
theorem dX3_harmGlass_26 : decode cX3_harmGlass 26 = .ok (.iload_n 2, 1) := by decide +kernel
theorem dX3_harmGlass_27 : decode cX3_harmGlass 27 = .ok (.baload, 1) := by decide +kernel
theorem dX3_harmGlass_28 : decode cX3_harmGlass 28 = .ok (.ifCond .ne 13, 3) := by decide +kernel
theorem dX3_harmGlass_31 : decode cX3_harmGlass 31 = .ok (.aload_n 0, 1) := by decide +kernel
theorem dX3_harmGlass_32 : decode cX3_harmGlass 32 = .ok (.getfield 18, 3) := by decide +kernel
theorem dX3_harmGlass_35 : decode cX3_harmGlass 35 = .ok (.iload_n 2, 1) := by decide +kernel
theorem dX3_harmGlass_36 : decode cX3_harmGlass 36 = .ok (.iconst 1, 1) := by decide +kernel
theorem dX3_harmGlass_37 : decode cX3_harmGlass 37 = .ok (.bastore, 1) := by decide +kernel
theorem dX3_harmGlass_38 : decode cX3_harmGlass 38 = .ok (.iinc 1 1, 3) := by decide +kernel
theorem dX3_harmGlass_41 : decode cX3_harmGlass 41 = .ok (.iinc 2 1, 3) := by decide +kernel
theorem dX3_harmGlass_44 : decode cX3_harmGlass 44 = .ok (.goto (-40), 3) := by decide +kernel
theorem dX3_harmGlass_47 : decode cX3_harmGlass 47 = .ok (.iload_n 1, 1) := by decide +kernel
theorem dX3_harmGlass_48 : decode cX3_harmGlass 48 = .ok (.ireturn, 1) := by decide +kernel
theorem dX3_copy_0 : decode cX3_copy 0 = .ok (.aload_n 0, 1) := by decide +kernel
theorem dX3_copy_1 : decode cX3_copy 1 = .ok (.aload_n 1, 1) := by decide +kernel
theorem dX3_copy_2 : decode cX3_copy 2 = .ok (.getfield 22, 3) := by decide +kernel
theorem dX3_copy_5 : decode cX3_copy 5 = .ok (.putfield 22, 3) := by decide +kernel
theorem dX3_copy_8 : decode cX3_copy 8 = .ok (.iconst 0, 1) := by decide +kernel
theorem dX3_copy_9 : decode cX3_copy 9 = .ok (.istore_n 2, 1) := by decide +kernel
theorem dX3_copy_10 : decode cX3_copy 10 = .ok (.iload_n 2, 1) := by decide +kernel
theorem dX3_copy_11 : decode cX3_copy 11 = .ok (.aload_n 0, 1) := by decide +kernel
theorem dX3_copy_12 : decode cX3_copy 12 = .ok (.getfield 22, 3) := by decide +kernel
theorem dX3_copy_15 : decode cX3_copy 15 = .ok (.if_icmp .ge 45, 3) := by decide +kernel
theorem dX3_copy_18 : decode cX3_copy 18 = .ok (.aload_n 0, 1) := by decide +kernel
theorem dX3_copy_19 : decode cX3_copy 19 = .ok (.getfield 9, 3) := by decide +kernel
theorem dX3_copy_22 : decode cX3_copy 22 = .ok (.iload_n 2, 1) := by decide +kernel
theorem dX3_copy_23 : decode cX3_copy 23 = .ok (.aload_n 1, 1) := by decide +kernel
theorem dX3_copy_24 : decode cX3_copy 24 = .ok (.getfield 9, 3) := by decide +kernel
theorem dX3_copy_27 : decode cX3_copy 27 = .ok (.iload_n 2, 1) := by decide +kernel
theorem dX3_copy_28 : decode cX3_copy 28 = .ok (.iaload, 1) := by decide +kernel
theorem dX3_copy_29 : decode cX3_copy 29 = .ok (.iastore, 1) := by decide +kernel
theorem dX3_copy_30 : decode cX3_copy 30 = .ok (.aload_n 0, 1) := by decide +kernel
theorem dX3_copy_31 : decode cX3_copy 31 = .ok (.getfield 15, 3) := by decide +kernel
theorem dX3_copy_34 : decode cX3_copy 34 = .ok (.iload_n 2, 1) := by decide +kernel
theorem dX3_copy_35 : decode cX3_copy 35 = .ok (.aload_n 1, 1) := by decide +kernel
theorem dX3_copy_36 : decode cX3_copy 36 = .ok (.getfield 15, 3) := by decide +kernel
theorem dX3_copy_39 : decode cX3_copy 39 = .ok (.iload_n 2, 1) := by decide +kernel
theorem dX3_copy_40 : decode cX3_copy 40 = .ok (.iaload, 1) := by decide +kernel
theorem dX3_copy_41 : decode cX3_copy 41 = .ok (.iastore, 1) := by decide +kernel
theorem dX3_copy_42 : decode cX3_copy 42 = .ok (.aload_n 0, 1) := by decide +kernel
theorem dX3_copy_43 : decode cX3_copy 43 = .ok (.getfield 18, 3) := by decide +kernel
theorem dX3_copy_46 : decode cX3_copy 46 = .ok (.iload_n 2, 1) := by decide +kernel
theorem dX3_copy_47 : decode cX3_copy 47 = .ok (.aload_n 1, 1) := by decide +kernel
theorem dX3_copy_48 : decode cX3_copy 48 = .ok (.getfield 18, 3) := by decide +kernel
theorem dX3_copy_51 : decode cX3_copy 51 = .ok (.iload_n 2, 1) := by decide +kernel
theorem dX3_copy_52 : decode cX3_copy 52 = .ok (.baload, 1) := by decide +kernel
theorem dX3_copy_53 : decode cX3_copy 53 = .ok (.bastore, 1) := by decide +kernel
theorem dX3_copy_54 : decode cX3_copy 54 = .ok (.iinc 2 1, 3) := by decide +kernel
theorem dX3_copy_57 : decode cX3_copy 57 = .ok (.goto (-47), 3) := by decide +kernel
theorem dX3_copy_60 : decode cX3_copy 60 = .ok (.return_, 1) := by decide +kernel
set_option maxRecDepth 20000 in
theorem ggX4_init_X3_init : GoodIn wsX4_init wsX3_init := goodIn_r _ [14, 15, 2, 3, 4, 16, 17, 18, 19, 28, 29, 30, 31] (by decide +kernel) (by decide +kernel)
set_option maxRecDepth 20000 in
theorem gX4_init_X3_init_n21 : GoodIn wsX4_init (wsX3_init) := ggX4_init_X3_init
theorem dX4_init_0 : decode cX4_init 0 = .ok (.aload_n 0, 1) := by decide +kernel
theorem dX4_init_1 : decode cX4_init 1 = .ok (.invokespecial 3, 3) := by decide +kernel
theorem dX4_init_4 : decode cX4_init 4 = .ok (.aload_n 0, 1) := by decide +kernel
theorem dX4_init_5 : decode cX4_init 5 = .ok (.bipush 6, 2) := by decide +kernel
theorem dX4_init_7 : decode cX4_init 7 = .ok (.newarray .int, 2) := by decide +kernel
theorem dX4_init_9 : decode cX4_init 9 = .ok (.putfield 9, 3) := by decide +kernel
theorem dX4_init_12 : decode cX4_init 12 = .ok (.aload_n 0, 1) := by decide +kernel
theorem dX4_init_13 : decode cX4_init 13 = .ok (.bipush 6, 2) := by decide +kernel
theorem dX4_init_15 : decode cX4_init 15 = .ok (.anewarray 15, 3) := by decide +kernel
theorem dX4_init_18 : decode cX4_init 18 = .ok (.putfield 17, 3) := by decide +kernel
theorem dX4_init_21 : decode cX4_init 21 = .ok (.aload_n 0, 1) := by decide +kernel
theorem dX4_init_22 : decode cX4_init 22 = .ok (.new 15, 3) := by decide +kernel
theorem dX4_init_25 : decode cX4_init 25 = .ok (.dup, 1) := by decide +kernel
theorem dX4_init_26 : decode cX4_init 26 = .ok (.invokespecial 21, 3) := by decide +kernel
theorem dX4_init_29 : decode cX4_init 29 = .ok (.putfield 22, 3) := by decide +kernel
theorem dX4_init_32 : decode cX4_init 32 = .ok (.aload_n 0, 1) := by decide +kernel
theorem dX4_init_33 : decode cX4_init 33 = .ok (.bipush 8, 2) := by decide +kernel
theorem dX4_init_35 : decode cX4_init 35 = .ok (.newarray .int, 2) := by decide +kernel
theorem dX4_init_37 : decode cX4_init 37 = .ok (.putfield 26, 3) := by decide +kernel
theorem dX4_init_40 : decode cX4_init 40 = .ok (.aload_n 0, 1) := by decide +kernel
theorem dX4_init_41 : decode cX4_init 41 = .ok (.bipush 8, 2) := by decide +kernel
theorem dX4_init_43 : decode cX4_init 43 = .ok (.newarray .int, 2) := by decide +kernel
end
section
theorem dX4_init_45 : decode cX4_init 45 = .ok (.putfield 29, 3) := by decide +kernel
theorem dX4_init_48 : decode cX4_init 48 = .ok (.iconst 0, 1) := by decide +kernel
theorem dX4_init_49 : decode cX4_init 49 = .ok (.istore_n 1, 1) := by decide +kernel
theorem dX4_init_50 : decode cX4_init 50 = .ok (.iload_n 1, 1) := by decide +kernel
theorem dX4_init_51 : decode cX4_init 51 = .ok (.bipush 6, 2) := by decide +kernel
theorem dX4_init_53 : decode cX4_init 53 = .ok (.if_icmp .ge 22, 3) := by decide +kernel
theorem dX4_init_56 : decode cX4_init 56 = .ok (.aload_n 0, 1) := by decide +kernel
theorem dX4_init_57 : decode cX4_init 57 = .ok (.getfield 17, 3) := by decide +kernel
theorem dX4_init_60 : decode cX4_init 60 = .ok (.iload_n 1, 1) := by decide +kernel
theorem dX4_init_61 : decode cX4_init 61 = .ok (.new 15, 3) := by decide +kernel
theorem dX4_init_64 : decode cX4_init 64 = .ok (.dup, 1) := by decide +kernel
theorem dX4_init_65 : decode cX4_init 65 = .ok (.invokespecial 21, 3) := by decide +kernel
theorem dX4_init_68 : decode cX4_init 68 = .ok (.aastore, 1) := by decide +kernel
theorem dX4_init_69 : decode cX4_init 69 = .ok (.iinc 1 1, 3) := by decide +kernel
theorem dX4_init_72 : decode cX4_init 72 = .ok (.goto (-22), 3) := by decide +kernel
theorem dX4_init_75 : decode cX4_init 75 = .ok (.return_, 1) := by decide +kernel
theorem dX4_start_0 : decode cX4_start 0 = .ok (.iconst 0, 1) := by decide +kernel
theorem dX4_start_1 : decode cX4_start 1 = .ok (.istore_n 1, 1) := by decide +kernel
theorem dX4_start_2 : decode cX4_start 2 = .ok (.iload_n 1, 1) := by decide +kernel
theorem dX4_start_3 : decode cX4_start 3 = .ok (.bipush 6, 2) := by decide +kernel
theorem dX4_start_5 : decode cX4_start 5 = .ok (.if_icmp .ge 26, 3) := by decide +kernel
theorem dX4_start_8 : decode cX4_start 8 = .ok (.aload_n 0, 1) := by decide +kernel
theorem dX4_start_9 : decode cX4_start 9 = .ok (.getfield 9, 3) := by decide +kernel
theorem dX4_start_12 : decode cX4_start 12 = .ok (.iload_n 1, 1) := by decide +kernel
theorem dX4_start_13 : decode cX4_start 13 = .ok (.iload_n 1, 1) := by decide +kernel
theorem dX4_start_14 : decode cX4_start 14 = .ok (.iastore, 1) := by decide +kernel
theorem dX4_start_15 : decode cX4_start 15 = .ok (.aload_n 0, 1) := by decide +kernel
theorem dX4_start_16 : decode cX4_start 16 = .ok (.getfield 17, 3) := by decide +kernel
theorem dX4_start_19 : decode cX4_start 19 = .ok (.iload_n 1, 1) := by decide +kernel
theorem dX4_start_20 : decode cX4_start 20 = .ok (.aaload, 1) := by decide +kernel
theorem dX4_start_21 : decode cX4_start 21 = .ok (.iconst 0, 1) := by decide +kernel
theorem dX4_start_22 : decode cX4_start 22 = .ok (.putfield 32, 3) := by decide +kernel
theorem dX4_start_25 : decode cX4_start 25 = .ok (.iinc 1 1, 3) := by decide +kernel
theorem dX4_start_28 : decode cX4_start 28 = .ok (.goto (-26), 3) := by decide +kernel
theorem dX4_start_31 : decode cX4_start 31 = .ok (.aload_n 0, 1) := by decide +kernel
theorem dX4_start_32 : decode cX4_start 32 = .ok (.getfield 22, 3) := by decide +kernel
theorem dX4_start_35 : decode cX4_start 35 = .ok (.iconst 0, 1) := by decide +kernel
theorem dX4_start_36 : decode cX4_start 36 = .ok (.putfield 32, 3) := by decide +kernel
theorem dX4_start_39 : decode cX4_start 39 = .ok (.aload_n 0, 1) := by decide +kernel
theorem dX4_start_40 : decode cX4_start 40 = .ok (.iconst 0, 1) := by decide +kernel
theorem dX4_start_41 : decode cX4_start 41 = .ok (.putfield 36, 3) := by decide +kernel
theorem dX4_start_44 : decode cX4_start 44 = .ok (.aload_n 0, 1) := by decide +kernel
theorem dX4_start_45 : decode cX4_start 45 = .ok (.iconst 0, 1) := by decide +kernel
theorem dX4_start_46 : decode cX4_start 46 = .ok (.putfield 39, 3) := by decide +kernel
theorem dX4_start_49 : decode cX4_start 49 = .ok (.aload_n 0, 1) := by decide +kernel
theorem dX4_start_50 : decode cX4_start 50 = .ok (.iconst 0, 1) := by decide +kernel
theorem dX4_start_51 : decode cX4_start 51 = .ok (.putfield 42, 3) := by decide +kernel
theorem dX4_start_54 : decode cX4_start 54 = .ok (.return_, 1) := by decide +kernel
set_option maxRecDepth 20000 in
theorem ggX4_copy_X3_copy : GoodIn wsX4_copy wsX3_copy := goodIn_r _ [13, 14, 15, 16, 17, 26, 27, 28, 29] (by decide +kernel) (by decide +kernel)
set_option maxRecDepth 20000 in
theorem gX4_copy_X3_copy : GoodIn wsX4_copy (wsV RX4 45 RX3 yX3_copy wsX3_copy) := goodIn_app (goodIn_of _ (by decide +kernel)) ggX4_copy_X3_copy
theorem dX4_copy_0 : decode cX4_copy 0 = .ok (.iconst 0, 1) := by decide +kernel
theorem dX4_copy_1 : decode cX4_copy 1 = .ok (.istore_n 2, 1) := by decide +kernel
theorem dX4_copy_2 : decode cX4_copy 2 = .ok (.iload_n 2, 1) := by decide +kernel
theorem dX4_copy_3 : decode cX4_copy 3 = .ok (.bipush 6, 2) := by decide +kernel
theorem dX4_copy_5 : decode cX4_copy 5 = .ok (.if_icmp .ge 36, 3) := by decide +kernel
theorem dX4_copy_8 : decode cX4_copy 8 = .ok (.aload_n 0, 1) := by decide +kernel
theorem dX4_copy_9 : decode cX4_copy 9 = .ok (.getfield 9, 3) := by decide +kernel
theorem dX4_copy_12 : decode cX4_copy 12 = .ok (.iload_n 2, 1) := by decide +kernel
theorem dX4_copy_13 : decode cX4_copy 13 = .ok (.aload_n 1, 1) := by decide +kernel
theorem dX4_copy_14 : decode cX4_copy 14 = .ok (.getfield 9, 3) := by decide +kernel
theorem dX4_copy_17 : decode cX4_copy 17 = .ok (.iload_n 2, 1) := by decide +kernel
theorem dX4_copy_18 : decode cX4_copy 18 = .ok (.iaload, 1) := by decide +kernel
theorem dX4_copy_19 : decode cX4_copy 19 = .ok (.iastore, 1) := by decide +kernel
theorem dX4_copy_20 : decode cX4_copy 20 = .ok (.aload_n 0, 1) := by decide +kernel
theorem dX4_copy_21 : decode cX4_copy 21 = .ok (.getfield 17, 3) := by decide +kernel
theorem dX4_copy_24 : decode cX4_copy 24 = .ok (.iload_n 2, 1) := by decide +kernel
theorem dX4_copy_25 : decode cX4_copy 25 = .ok (.aaload, 1) := by decide +kernel
theorem dX4_copy_26 : decode cX4_copy 26 = .ok (.aload_n 1, 1) := by decide +kernel
theorem dX4_copy_27 : decode cX4_copy 27 = .ok (.getfield 17, 3) := by decide +kernel
theorem dX4_copy_30 : decode cX4_copy 30 = .ok (.iload_n 2, 1) := by decide +kernel
theorem dX4_copy_31 : decode cX4_copy 31 = .ok (.aaload, 1) := by decide +kernel
theorem dX4_copy_32 : decode cX4_copy 32 = .ok (.invokevirtual 45, 3) := by decide +kernel
theorem dX4_copy_35 : decode cX4_copy 35 = .ok (.iinc 2 1, 3) := by decide +kernel
theorem dX4_copy_38 : decode cX4_copy 38 = .ok (.goto (-36), 3) := by decide +kernel
theorem dX4_copy_41 : decode cX4_copy 41 = .ok (.aload_n 0, 1) := by decide +kernel
theorem dX4_copy_42 : decode cX4_copy 42 = .ok (.getfield 22, 3) := by decide +kernel
theorem dX4_copy_45 : decode cX4_copy 45 = .ok (.aload_n 1, 1) := by decide +kernel
theorem dX4_copy_46 : decode cX4_copy 46 = .ok (.getfield 22, 3) := by decide +kernel
theorem dX4_copy_49 : decode cX4_copy 49 = .ok (.invokevirtual 45, 3) := by decide +kernel
theorem dX4_copy_52 : decode cX4_copy 52 = .ok (.iconst 0, 1) := by decide +kernel
theorem dX4_copy_53 : decode cX4_copy 53 = .ok (.istore_n 2, 1) := by decide +kernel
theorem dX4_copy_54 : decode cX4_copy 54 = .ok (.iload_n 2, 1) := by decide +kernel
theorem dX4_copy_55 : decode cX4_copy 55 = .ok (.bipush 8, 2) := by decide +kernel
theorem dX4_copy_57 : decode cX4_copy 57 = .ok (.if_icmp .ge 33, 3) := by decide +kernel
theorem dX4_copy_60 : decode cX4_copy 60 = .ok (.aload_n 0, 1) := by decide +kernel
theorem dX4_copy_61 : decode cX4_copy 61 = .ok (.getfield 26, 3) := by decide +kernel
theorem dX4_copy_64 : decode cX4_copy 64 = .ok (.iload_n 2, 1) := by decide +kernel
theorem dX4_copy_65 : decode cX4_copy 65 = .ok (.aload_n 1, 1) := by decide +kernel
theorem dX4_copy_66 : decode cX4_copy 66 = .ok (.getfield 26, 3) := by decide +kernel
theorem dX4_copy_69 : decode cX4_copy 69 = .ok (.iload_n 2, 1) := by decide +kernel
theorem dX4_copy_70 : decode cX4_copy 70 = .ok (.iaload, 1) := by decide +kernel
theorem dX4_copy_71 : decode cX4_copy 71 = .ok (.iastore, 1) := by decide +kernel
theorem dX4_copy_72 : decode cX4_copy 72 = .ok (.aload_n 0, 1) := by decide +kernel
theorem dX4_copy_73 : decode cX4_copy 73 = .ok (.getfield 29, 3) := by decide +kernel
theorem dX4_copy_76 : decode cX4_copy 76 = .ok (.iload_n 2, 1) := by decide +kernel
theorem dX4_copy_77 : decode cX4_copy 77 = .ok (.aload_n 1, 1) := by decide +kernel
theorem dX4_copy_78 : decode cX4_copy 78 = .ok (.getfield 29, 3) := by decide +kernel
theorem dX4_copy_81 : decode cX4_copy 81 = .ok (.iload_n 2, 1) := by decide +kernel
theorem dX4_copy_82 : decode cX4_copy 82 = .ok (.iaload, 1) := by decide +kernel
theorem dX4_copy_83 : decode cX4_copy 83 = .ok (.iastore, 1) := by decide +kernel
theorem dX4_copy_84 : decode cX4_copy 84 = .ok (.iinc 2 1, 3) := by decide +kernel
theorem dX4_copy_87 : decode cX4_copy 87 = .ok (.goto (-33), 3) := by decide +kernel
theorem dX4_copy_90 : decode cX4_copy 90 = .ok (.aload_n 0, 1) := by decide +kernel
theorem dX4_copy_91 : decode cX4_copy 91 = .ok (.aload_n 1, 1) := by decide +kernel
theorem dX4_copy_92 : decode cX4_copy 92 = .ok (.getfield 36, 3) := by decide +kernel
theorem dX4_copy_95 : decode cX4_copy 95 = .ok (.putfield 36, 3) := by decide +kernel
theorem dX4_copy_98 : decode cX4_copy 98 = .ok (.aload_n 0, 1) := by decide +kernel
theorem dX4_copy_99 : decode cX4_copy 99 = .ok (.aload_n 1, 1) := by decide +kernel
theorem dX4_copy_100 : decode cX4_copy 100 = .ok (.getfield 39, 3) := by decide +kernel
theorem dX4_copy_103 : decode cX4_copy 103 = .ok (.putfield 39, 3) := by decide +kernel
theorem dX4_copy_106 : decode cX4_copy 106 = .ok (.aload_n 0, 1) := by decide +kernel
theorem dX4_copy_107 : decode cX4_copy 107 = .ok (.aload_n 1, 1) := by decide +kernel
theorem dX4_copy_108 : decode cX4_copy 108 = .ok (.getfield 42, 3) := by decide +kernel
theorem dX4_copy_111 : decode cX4_copy 111 = .ok (.putfield 42, 3) := by decide +kernel
theorem dX4_copy_114 : decode cX4_copy 114 = .ok (.return_, 1) := by decide +kernel
set_option maxRecDepth 20000 in
theorem ggX4_putFirst_X3_kindAt : GoodIn wsX4_putFirst wsX3_kindAt := goodIn_r _ [8, 9, 10, 41, 42, 43, 44] (by decide +kernel) (by decide +kernel)
set_option maxRecDepth 20000 in
theorem gX4_putFirst_X3_kindAt : GoodIn wsX4_putFirst (wsV RX4 49 RX3 yX3_kindAt wsX3_kindAt) := goodIn_app (goodIn_of _ (by decide +kernel)) ggX4_putFirst_X3_kindAt
set_option maxRecDepth 20000 in
theorem ggX4_putFirst_X3_harmGlass : GoodIn wsX4_putFirst wsX3_harmGlass := goodIn_r _ [14, 9, 10, 15, 41, 42, 43, 44] (by decide +kernel) (by decide +kernel)
set_option maxRecDepth 20000 in
theorem gX4_putFirst_X3_harmGlass : GoodIn wsX4_putFirst (wsV RX4 53 RX3 yX3_harmGlass wsX3_harmGlass) := goodIn_app (goodIn_of _ (by decide +kernel)) ggX4_putFirst_X3_harmGlass
set_option maxRecDepth 20000 in
theorem ggX4_putFirst_X3_townAt : GoodIn wsX4_putFirst wsX3_townAt := goodIn_r _ [19, 9, 20, 41, 42, 43, 44] (by decide +kernel) (by decide +kernel)
set_option maxRecDepth 20000 in
theorem gX4_putFirst_X3_townAt : GoodIn wsX4_putFirst (wsV RX4 57 RX3 yX3_townAt wsX3_townAt) := goodIn_app (goodIn_of _ (by decide +kernel)) ggX4_putFirst_X3_townAt
set_option maxRecDepth 20000 in
theorem ggX4_putFirst_X3_add : GoodIn wsX4_putFirst wsX3_add := goodIn_r _ [24, 9, 10, 20, 15, 41, 42, 43, 44] (by decide +kernel) (by decide +kernel)
set_option maxRecDepth 20000 in
theorem gX4_putFirst_X3_add : GoodIn wsX4_putFirst (wsV RX4 60 RX3 yX3_add wsX3_add) := goodIn_app (goodIn_of _ (by decide +kernel)) ggX4_putFirst_X3_add
set_option maxRecDepth 20000 in
theorem ggX4_putFirst_X3_dropFirst : GoodIn wsX4_putFirst wsX3_dropFirst := goodIn_r _ [28, 9, 10, 20, 15, 29, 30, 31, 32, 41, 42, 43, 44] (by decide +kernel) (by decide +kernel)
set_option maxRecDepth 20000 in
theorem gX4_putFirst_X3_dropFirst : GoodIn wsX4_putFirst (wsV RX4 64 RX3 yX3_dropFirst wsX3_dropFirst) := goodIn_app (goodIn_of _ (by decide +kernel)) ggX4_putFirst_X3_dropFirst
theorem dX4_putFirst_0 : decode cX4_putFirst 0 = .ok (.aload_n 0, 1) := by decide +kernel
theorem dX4_putFirst_1 : decode cX4_putFirst 1 = .ok (.getfield 22, 3) := by decide +kernel
theorem dX4_putFirst_4 : decode cX4_putFirst 4 = .ok (.iconst 0, 1) := by decide +kernel
theorem dX4_putFirst_5 : decode cX4_putFirst 5 = .ok (.invokevirtual 49, 3) := by decide +kernel
theorem dX4_putFirst_8 : decode cX4_putFirst 8 = .ok (.istore_n 3, 1) := by decide +kernel
theorem dX4_putFirst_9 : decode cX4_putFirst 9 = .ok (.iload_n 2, 1) := by decide +kernel
theorem dX4_putFirst_10 : decode cX4_putFirst 10 = .ok (.ifCond .eq 12, 3) := by decide +kernel
theorem dX4_putFirst_13 : decode cX4_putFirst 13 = .ok (.iload_n 3, 1) := by decide +kernel
theorem dX4_putFirst_14 : decode cX4_putFirst 14 = .ok (.iconst 3, 1) := by decide +kernel
theorem dX4_putFirst_15 : decode cX4_putFirst 15 = .ok (.if_icmp .ne 7, 3) := by decide +kernel
theorem dX4_putFirst_18 : decode cX4_putFirst 18 = .ok (.iconst 1, 1) := by decide +kernel
theorem dX4_putFirst_19 : decode cX4_putFirst 19 = .ok (.goto 4, 3) := by decide +kernel
theorem dX4_putFirst_22 : decode cX4_putFirst 22 = .ok (.iconst 0, 1) := by decide +kernel
theorem dX4_putFirst_23 : decode cX4_putFirst 23 = .ok (.istore 4, 2) := by decide +kernel
theorem dX4_putFirst_25 : decode cX4_putFirst 25 = .ok (.iload_n 3, 1) := by decide +kernel
theorem dX4_putFirst_26 : decode cX4_putFirst 26 = .ok (.iconst 4, 1) := by decide +kernel
theorem dX4_putFirst_27 : decode cX4_putFirst 27 = .ok (.if_icmp .ne 21, 3) := by decide +kernel
theorem dX4_putFirst_30 : decode cX4_putFirst 30 = .ok (.aload_n 0, 1) := by decide +kernel
theorem dX4_putFirst_31 : decode cX4_putFirst 31 = .ok (.dup, 1) := by decide +kernel
theorem dX4_putFirst_32 : decode cX4_putFirst 32 = .ok (.getfield 42, 3) := by decide +kernel
theorem dX4_putFirst_35 : decode cX4_putFirst 35 = .ok (.aload_n 0, 1) := by decide +kernel
theorem dX4_putFirst_36 : decode cX4_putFirst 36 = .ok (.getfield 17, 3) := by decide +kernel
theorem dX4_putFirst_39 : decode cX4_putFirst 39 = .ok (.iload_n 1, 1) := by decide +kernel
theorem dX4_putFirst_40 : decode cX4_putFirst 40 = .ok (.aaload, 1) := by decide +kernel
theorem dX4_putFirst_41 : decode cX4_putFirst 41 = .ok (.invokevirtual 53, 3) := by decide +kernel
theorem dX4_putFirst_44 : decode cX4_putFirst 44 = .ok (.iadd, 1) := by decide +kernel
theorem dX4_putFirst_45 : decode cX4_putFirst 45 = .ok (.putfield 42, 3) := by decide +kernel
theorem dX4_putFirst_48 : decode cX4_putFirst 48 = .ok (.iload 4, 2) := by decide +kernel
theorem dX4_putFirst_50 : decode cX4_putFirst 50 = .ok (.ifCond .eq 13, 3) := by decide +kernel
theorem dX4_putFirst_53 : decode cX4_putFirst 53 = .ok (.aload_n 0, 1) := by decide +kernel
theorem dX4_putFirst_54 : decode cX4_putFirst 54 = .ok (.dup, 1) := by decide +kernel
theorem dX4_putFirst_55 : decode cX4_putFirst 55 = .ok (.getfield 42, 3) := by decide +kernel
theorem dX4_putFirst_58 : decode cX4_putFirst 58 = .ok (.iconst 1, 1) := by decide +kernel
theorem dX4_putFirst_59 : decode cX4_putFirst 59 = .ok (.iadd, 1) := by decide +kernel
theorem dX4_putFirst_60 : decode cX4_putFirst 60 = .ok (.putfield 42, 3) := by decide +kernel
theorem dX4_putFirst_63 : decode cX4_putFirst 63 = .ok (.aload_n 0, 1) := by decide +kernel
theorem dX4_putFirst_64 : decode cX4_putFirst 64 = .ok (.getfield 17, 3) := by decide +kernel
theorem dX4_putFirst_67 : decode cX4_putFirst 67 = .ok (.iload_n 1, 1) := by decide +kernel
theorem dX4_putFirst_68 : decode cX4_putFirst 68 = .ok (.aaload, 1) := by decide +kernel
theorem dX4_putFirst_69 : decode cX4_putFirst 69 = .ok (.iload_n 3, 1) := by decide +kernel
theorem dX4_putFirst_70 : decode cX4_putFirst 70 = .ok (.aload_n 0, 1) := by decide +kernel
theorem dX4_putFirst_71 : decode cX4_putFirst 71 = .ok (.getfield 22, 3) := by decide +kernel
theorem dX4_putFirst_74 : decode cX4_putFirst 74 = .ok (.iconst 0, 1) := by decide +kernel
theorem dX4_putFirst_75 : decode cX4_putFirst 75 = .ok (.invokevirtual 57, 3) := by decide +kernel
theorem dX4_putFirst_78 : decode cX4_putFirst 78 = .ok (.iload 4, 2) := by decide +kernel
theorem dX4_putFirst_80 : decode cX4_putFirst 80 = .ok (.invokevirtual 60, 3) := by decide +kernel
theorem dX4_putFirst_83 : decode cX4_putFirst 83 = .ok (.aload_n 0, 1) := by decide +kernel
theorem dX4_putFirst_84 : decode cX4_putFirst 84 = .ok (.getfield 22, 3) := by decide +kernel
theorem dX4_putFirst_87 : decode cX4_putFirst 87 = .ok (.invokevirtual 64, 3) := by decide +kernel
theorem dX4_putFirst_90 : decode cX4_putFirst 90 = .ok (.return_, 1) := by decide +kernel
theorem dX4_swap_0 : decode cX4_swap 0 = .ok (.aload_n 0, 1) := by decide +kernel
theorem dX4_swap_1 : decode cX4_swap 1 = .ok (.getfield 17, 3) := by decide +kernel
theorem dX4_swap_4 : decode cX4_swap 4 = .ok (.iload_n 1, 1) := by decide +kernel
theorem dX4_swap_5 : decode cX4_swap 5 = .ok (.aaload, 1) := by decide +kernel
theorem dX4_swap_6 : decode cX4_swap 6 = .ok (.astore_n 3, 1) := by decide +kernel
theorem dX4_swap_7 : decode cX4_swap 7 = .ok (.aload_n 0, 1) := by decide +kernel
theorem dX4_swap_8 : decode cX4_swap 8 = .ok (.getfield 17, 3) := by decide +kernel
theorem dX4_swap_11 : decode cX4_swap 11 = .ok (.iload_n 1, 1) := by decide +kernel
theorem dX4_swap_12 : decode cX4_swap 12 = .ok (.aload_n 0, 1) := by decide +kernel
theorem dX4_swap_13 : decode cX4_swap 13 = .ok (.getfield 17, 3) := by decide +kernel
theorem dX4_swap_16 : decode cX4_swap 16 = .ok (.iload_n 2, 1) := by decide +kernel
theorem dX4_swap_17 : decode cX4_swap 17 = .ok (.aaload, 1) := by decide +kernel
theorem dX4_swap_18 : decode cX4_swap 18 = .ok (.aastore, 1) := by decide +kernel
theorem dX4_swap_19 : decode cX4_swap 19 = .ok (.aload_n 0, 1) := by decide +kernel
theorem dX4_swap_20 : decode cX4_swap 20 = .ok (.getfield 17, 3) := by decide +kernel
theorem dX4_swap_23 : decode cX4_swap 23 = .ok (.iload_n 2, 1) := by decide +kernel
theorem dX4_swap_24 : decode cX4_swap 24 = .ok (.aload_n 3, 1) := by decide +kernel
theorem dX4_swap_25 : decode cX4_swap 25 = .ok (.aastore, 1) := by decide +kernel
theorem dX4_swap_26 : decode cX4_swap 26 = .ok (.aload_n 0, 1) := by decide +kernel
theorem dX4_swap_27 : decode cX4_swap 27 = .ok (.getfield 9, 3) := by decide +kernel
theorem dX4_swap_30 : decode cX4_swap 30 = .ok (.iload_n 1, 1) := by decide +kernel
theorem dX4_swap_31 : decode cX4_swap 31 = .ok (.iaload, 1) := by decide +kernel
theorem dX4_swap_32 : decode cX4_swap 32 = .ok (.istore 4, 2) := by decide +kernel
theorem dX4_swap_34 : decode cX4_swap 34 = .ok (.aload_n 0, 1) := by decide +kernel
theorem dX4_swap_35 : decode cX4_swap 35 = .ok (.getfield 9, 3) := by decide +kernel
theorem dX4_swap_38 : decode cX4_swap 38 = .ok (.iload_n 1, 1) := by decide +kernel
theorem dX4_swap_39 : decode cX4_swap 39 = .ok (.aload_n 0, 1) := by decide +kernel
theorem dX4_swap_40 : decode cX4_swap 40 = .ok (.getfield 9, 3) := by decide +kernel
theorem dX4_swap_43 : decode cX4_swap 43 = .ok (.iload_n 2, 1) := by decide +kernel
theorem dX4_swap_44 : decode cX4_swap 44 = .ok (.iaload, 1) := by decide +kernel
theorem dX4_swap_45 : decode cX4_swap 45 = .ok (.iastore, 1) := by decide +kernel
theorem dX4_swap_46 : decode cX4_swap 46 = .ok (.aload_n 0, 1) := by decide +kernel
theorem dX4_swap_47 : decode cX4_swap 47 = .ok (.getfield 9, 3) := by decide +kernel
theorem dX4_swap_50 : decode cX4_swap 50 = .ok (.iload_n 2, 1) := by decide +kernel
theorem dX4_swap_51 : decode cX4_swap 51 = .ok (.iload 4, 2) := by decide +kernel
theorem dX4_swap_53 : decode cX4_swap 53 = .ok (.iastore, 1) := by decide +kernel
theorem dX4_swap_54 : decode cX4_swap 54 = .ok (.return_, 1) := by decide +kernel
theorem dX4_addFound_0 : decode cX4_addFound 0 = .ok (.aload_n 0, 1) := by decide +kernel
theorem dX4_addFound_1 : decode cX4_addFound 1 = .ok (.getfield 36, 3) := by decide +kernel
theorem dX4_addFound_4 : decode cX4_addFound 4 = .ok (.ifCond .lt 42, 3) := by decide +kernel
theorem dX4_addFound_7 : decode cX4_addFound 7 = .ok (.aload_n 0, 1) := by decide +kernel
theorem dX4_addFound_8 : decode cX4_addFound 8 = .ok (.getfield 36, 3) := by decide +kernel
theorem dX4_addFound_11 : decode cX4_addFound 11 = .ok (.bipush 8, 2) := by decide +kernel
theorem dX4_addFound_13 : decode cX4_addFound 13 = .ok (.if_icmp .ge 33, 3) := by decide +kernel
theorem dX4_addFound_16 : decode cX4_addFound 16 = .ok (.aload_n 0, 1) := by decide +kernel
theorem dX4_addFound_17 : decode cX4_addFound 17 = .ok (.getfield 26, 3) := by decide +kernel
theorem dX4_addFound_20 : decode cX4_addFound 20 = .ok (.aload_n 0, 1) := by decide +kernel
theorem dX4_addFound_21 : decode cX4_addFound 21 = .ok (.getfield 36, 3) := by decide +kernel
theorem dX4_addFound_24 : decode cX4_addFound 24 = .ok (.iload_n 1, 1) := by decide +kernel
theorem dX4_addFound_25 : decode cX4_addFound 25 = .ok (.iastore, 1) := by decide +kernel
theorem dX4_addFound_26 : decode cX4_addFound 26 = .ok (.aload_n 0, 1) := by decide +kernel
theorem dX4_addFound_27 : decode cX4_addFound 27 = .ok (.getfield 29, 3) := by decide +kernel
theorem dX4_addFound_30 : decode cX4_addFound 30 = .ok (.aload_n 0, 1) := by decide +kernel
theorem dX4_addFound_31 : decode cX4_addFound 31 = .ok (.getfield 36, 3) := by decide +kernel
theorem dX4_addFound_34 : decode cX4_addFound 34 = .ok (.iload_n 2, 1) := by decide +kernel
theorem dX4_addFound_35 : decode cX4_addFound 35 = .ok (.iastore, 1) := by decide +kernel
theorem dX4_addFound_36 : decode cX4_addFound 36 = .ok (.aload_n 0, 1) := by decide +kernel
theorem dX4_addFound_37 : decode cX4_addFound 37 = .ok (.dup, 1) := by decide +kernel
theorem dX4_addFound_38 : decode cX4_addFound 38 = .ok (.getfield 36, 3) := by decide +kernel
theorem dX4_addFound_41 : decode cX4_addFound 41 = .ok (.iconst 1, 1) := by decide +kernel
theorem dX4_addFound_42 : decode cX4_addFound 42 = .ok (.iadd, 1) := by decide +kernel
theorem dX4_addFound_43 : decode cX4_addFound 43 = .ok (.putfield 36, 3) := by decide +kernel
theorem dX4_addFound_46 : decode cX4_addFound 46 = .ok (.return_, 1) := by decide +kernel
theorem dX4_hookOf_0 : decode cX4_hookOf 0 = .ok (.iconst 0, 1) := by decide +kernel
theorem dX4_hookOf_1 : decode cX4_hookOf 1 = .ok (.istore_n 2, 1) := by decide +kernel
theorem dX4_hookOf_2 : decode cX4_hookOf 2 = .ok (.iload_n 2, 1) := by decide +kernel
theorem dX4_hookOf_3 : decode cX4_hookOf 3 = .ok (.bipush 6, 2) := by decide +kernel
theorem dX4_hookOf_5 : decode cX4_hookOf 5 = .ok (.if_icmp .ge 21, 3) := by decide +kernel
theorem dX4_hookOf_8 : decode cX4_hookOf 8 = .ok (.aload_n 0, 1) := by decide +kernel
theorem dX4_hookOf_9 : decode cX4_hookOf 9 = .ok (.getfield 9, 3) := by decide +kernel
theorem dX4_hookOf_12 : decode cX4_hookOf 12 = .ok (.iload_n 2, 1) := by decide +kernel
theorem dX4_hookOf_13 : decode cX4_hookOf 13 = .ok (.iaload, 1) := by decide +kernel
theorem dX4_hookOf_14 : decode cX4_hookOf 14 = .ok (.iload_n 1, 1) := by decide +kernel
theorem dX4_hookOf_15 : decode cX4_hookOf 15 = .ok (.if_icmp .ne 5, 3) := by decide +kernel
theorem dX4_hookOf_18 : decode cX4_hookOf 18 = .ok (.iload_n 2, 1) := by decide +kernel
theorem dX4_hookOf_19 : decode cX4_hookOf 19 = .ok (.ireturn, 1) := by decide +kernel
theorem dX4_hookOf_20 : decode cX4_hookOf 20 = .ok (.iinc 2 1, 3) := by decide +kernel
theorem dX4_hookOf_23 : decode cX4_hookOf 23 = .ok (.goto (-21), 3) := by decide +kernel
theorem dX4_hookOf_26 : decode cX4_hookOf 26 = .ok (.iconst (-1), 1) := by decide +kernel
theorem dX4_hookOf_27 : decode cX4_hookOf 27 = .ok (.ireturn, 1) := by decide +kernel
theorem dX4_inSacks_0 : decode cX4_inSacks 0 = .ok (.iconst 0, 1) := by decide +kernel
theorem dX4_inSacks_1 : decode cX4_inSacks 1 = .ok (.istore_n 2, 1) := by decide +kernel
theorem dX4_inSacks_2 : decode cX4_inSacks 2 = .ok (.iconst 0, 1) := by decide +kernel
theorem dX4_inSacks_3 : decode cX4_inSacks 3 = .ok (.istore_n 3, 1) := by decide +kernel
theorem dX4_inSacks_4 : decode cX4_inSacks 4 = .ok (.iload_n 3, 1) := by decide +kernel
theorem dX4_inSacks_5 : decode cX4_inSacks 5 = .ok (.iload_n 1, 1) := by decide +kernel
theorem dX4_inSacks_6 : decode cX4_inSacks 6 = .ok (.if_icmp .ge 21, 3) := by decide +kernel
theorem dX4_inSacks_9 : decode cX4_inSacks 9 = .ok (.iload_n 2, 1) := by decide +kernel
theorem dX4_inSacks_10 : decode cX4_inSacks 10 = .ok (.aload_n 0, 1) := by decide +kernel
theorem dX4_inSacks_11 : decode cX4_inSacks 11 = .ok (.getfield 17, 3) := by decide +kernel
theorem dX4_inSacks_14 : decode cX4_inSacks 14 = .ok (.iload_n 3, 1) := by decide +kernel
theorem dX4_inSacks_15 : decode cX4_inSacks 15 = .ok (.aaload, 1) := by decide +kernel
theorem dX4_inSacks_16 : decode cX4_inSacks 16 = .ok (.getfield 32, 3) := by decide +kernel
theorem dX4_inSacks_19 : decode cX4_inSacks 19 = .ok (.iadd, 1) := by decide +kernel
theorem dX4_inSacks_20 : decode cX4_inSacks 20 = .ok (.istore_n 2, 1) := by decide +kernel
theorem dX4_inSacks_21 : decode cX4_inSacks 21 = .ok (.iinc 3 1, 3) := by decide +kernel
theorem dX4_inSacks_24 : decode cX4_inSacks 24 = .ok (.goto (-20), 3) := by decide +kernel
theorem dX4_inSacks_27 : decode cX4_inSacks 27 = .ok (.iload_n 2, 1) := by decide +kernel
theorem dX4_inSacks_28 : decode cX4_inSacks 28 = .ok (.ireturn, 1) := by decide +kernel
set_option maxRecDepth 20000 in
theorem ggX4_wrongInSacks_X3_notFor : GoodIn wsX4_wrongInSacks wsX3_notFor := goodIn_r _ [7, 8, 9, 18, 19, 20, 21] (by decide +kernel) (by decide +kernel)
set_option maxRecDepth 20000 in
theorem gX4_wrongInSacks_X3_notFor : GoodIn wsX4_wrongInSacks (wsV RX4 67 RX3 yX3_notFor wsX3_notFor) := goodIn_app (goodIn_of _ (by decide +kernel)) ggX4_wrongInSacks_X3_notFor
theorem dX4_wrongInSacks_0 : decode cX4_wrongInSacks 0 = .ok (.iconst 0, 1) := by decide +kernel
theorem dX4_wrongInSacks_1 : decode cX4_wrongInSacks 1 = .ok (.istore_n 2, 1) := by decide +kernel
theorem dX4_wrongInSacks_2 : decode cX4_wrongInSacks 2 = .ok (.iconst 0, 1) := by decide +kernel
theorem dX4_wrongInSacks_3 : decode cX4_wrongInSacks 3 = .ok (.istore_n 3, 1) := by decide +kernel
theorem dX4_wrongInSacks_4 : decode cX4_wrongInSacks 4 = .ok (.iload_n 3, 1) := by decide +kernel
theorem dX4_wrongInSacks_5 : decode cX4_wrongInSacks 5 = .ok (.iload_n 1, 1) := by decide +kernel
theorem dX4_wrongInSacks_6 : decode cX4_wrongInSacks 6 = .ok (.if_icmp .ge 27, 3) := by decide +kernel
theorem dX4_wrongInSacks_9 : decode cX4_wrongInSacks 9 = .ok (.iload_n 2, 1) := by decide +kernel
theorem dX4_wrongInSacks_10 : decode cX4_wrongInSacks 10 = .ok (.aload_n 0, 1) := by decide +kernel
theorem dX4_wrongInSacks_11 : decode cX4_wrongInSacks 11 = .ok (.getfield 17, 3) := by decide +kernel
theorem dX4_wrongInSacks_14 : decode cX4_wrongInSacks 14 = .ok (.iload_n 3, 1) := by decide +kernel
theorem dX4_wrongInSacks_15 : decode cX4_wrongInSacks 15 = .ok (.aaload, 1) := by decide +kernel
theorem dX4_wrongInSacks_16 : decode cX4_wrongInSacks 16 = .ok (.aload_n 0, 1) := by decide +kernel
theorem dX4_wrongInSacks_17 : decode cX4_wrongInSacks 17 = .ok (.getfield 9, 3) := by decide +kernel
theorem dX4_wrongInSacks_20 : decode cX4_wrongInSacks 20 = .ok (.iload_n 3, 1) := by decide +kernel
theorem dX4_wrongInSacks_21 : decode cX4_wrongInSacks 21 = .ok (.iaload, 1) := by decide +kernel
theorem dX4_wrongInSacks_22 : decode cX4_wrongInSacks 22 = .ok (.invokevirtual 67, 3) := by decide +kernel
theorem dX4_wrongInSacks_25 : decode cX4_wrongInSacks 25 = .ok (.iadd, 1) := by decide +kernel
theorem dX4_wrongInSacks_26 : decode cX4_wrongInSacks 26 = .ok (.istore_n 2, 1) := by decide +kernel
theorem dX4_wrongInSacks_27 : decode cX4_wrongInSacks 27 = .ok (.iinc 3 1, 3) := by decide +kernel
theorem dX4_wrongInSacks_30 : decode cX4_wrongInSacks 30 = .ok (.goto (-26), 3) := by decide +kernel
theorem dX4_wrongInSacks_33 : decode cX4_wrongInSacks 33 = .ok (.iload_n 2, 1) := by decide +kernel
theorem dX4_wrongInSacks_34 : decode cX4_wrongInSacks 34 = .ok (.ireturn, 1) := by decide +kernel
theorem dX5_init_0 : decode cX5_init 0 = .ok (.aload_n 0, 1) := by decide +kernel
theorem dX5_init_1 : decode cX5_init 1 = .ok (.invokespecial 3, 3) := by decide +kernel
theorem dX5_init_4 : decode cX5_init 4 = .ok (.aload_n 0, 1) := by decide +kernel
theorem dX5_init_5 : decode cX5_init 5 = .ok (.bipush 6, 2) := by decide +kernel
theorem dX5_init_7 : decode cX5_init 7 = .ok (.newarray .int, 2) := by decide +kernel
theorem dX5_init_9 : decode cX5_init 9 = .ok (.putfield 9, 3) := by decide +kernel
theorem dX5_init_12 : decode cX5_init 12 = .ok (.return_, 1) := by decide +kernel
set_option maxRecDepth 20000 in
theorem ggX5_run_J7_fill_53178 : GoodIn wsX5_run wsJ7_fill_53178 := goodIn_r _ [9] (by decide +kernel) (by decide +kernel)
set_option maxRecDepth 20000 in
theorem gX5_run_J7_fill_53178 : GoodIn wsX5_run (va_wsS RX5 15 yJ7_fill_53178 wsJ7_fill_53178) := goodIn_app (goodIn_of _ (by decide +kernel)) ggX5_run_J7_fill_53178
set_option maxRecDepth 20000 in
theorem ggX5_run_X5_draw : GoodIn wsX5_run wsX5_draw := goodIn_r _ [14, 15, 2, 16, 17, 46, 47, 48, 49] (by decide +kernel) (by decide +kernel)
set_option maxRecDepth 20000 in
theorem gX5_run_X5_draw : GoodIn wsX5_run (wsV RX5 36 RX5 yX5_draw wsX5_draw) := goodIn_app (goodIn_of _ (by decide +kernel)) ggX5_run_X5_draw
set_option maxRecDepth 20000 in
theorem ggX5_run_X4_hookOf : GoodIn wsX5_run wsX4_hookOf := goodIn_r _ [22, 23, 54, 55, 56, 57, 58, 59, 60, 61] (by decide +kernel) (by decide +kernel)
set_option maxRecDepth 20000 in
theorem gX5_run_X4_hookOf : GoodIn wsX5_run (wsV RX5 40 RX4 yX4_hookOf wsX4_hookOf) := goodIn_app (goodIn_of _ (by decide +kernel)) ggX5_run_X4_hookOf
set_option maxRecDepth 20000 in
theorem ggX5_run_X5_throwAt : GoodIn wsX5_run wsX5_throwAt := goodIn_r _ [27, 1, 28, 5, 29, 3, 4, 30, 31, 32, 33, 34, 35, 36, 37, 38, 39, 40, 41, 42, 43, 44, 45, 10, 11, 12, 13, 14, 15, 2, 16, 17, 46, 47, 48, 49, 50, 51, 52, 53] (by decide +kernel) (by decide +kernel)
set_option maxRecDepth 20000 in
theorem gX5_run_X5_throwAt : GoodIn wsX5_run (wsV RX5 45 RX5 yX5_throwAt wsX5_throwAt) := goodIn_app (goodIn_of _ (by decide +kernel)) ggX5_run_X5_throwAt
theorem dX5_run_0 : decode cX5_run 0 = .ok (.aload_n 0, 1) := by decide +kernel
theorem dX5_run_1 : decode cX5_run 1 = .ok (.getfield 9, 3) := by decide +kernel
theorem dX5_run_4 : decode cX5_run 4 = .ok (.iconst 0, 1) := by decide +kernel
theorem dX5_run_5 : decode cX5_run 5 = .ok (.invokestatic 15, 3) := by decide +kernel
theorem dX5_run_8 : decode cX5_run 8 = .ok (.aload_n 0, 1) := by decide +kernel
theorem dX5_run_9 : decode cX5_run 9 = .ok (.iload 4, 2) := by decide +kernel
theorem dX5_run_11 : decode cX5_run 11 = .ok (.putfield 21, 3) := by decide +kernel
theorem dX5_run_14 : decode cX5_run 14 = .ok (.aload_n 0, 1) := by decide +kernel
theorem dX5_run_15 : decode cX5_run 15 = .ok (.iconst 0, 1) := by decide +kernel
theorem dX5_run_16 : decode cX5_run 16 = .ok (.putfield 25, 3) := by decide +kernel
theorem dX5_run_19 : decode cX5_run 19 = .ok (.aload_n 0, 1) := by decide +kernel
theorem dX5_run_20 : decode cX5_run 20 = .ok (.iconst 0, 1) := by decide +kernel
theorem dX5_run_21 : decode cX5_run 21 = .ok (.putfield 28, 3) := by decide +kernel
theorem dX5_run_24 : decode cX5_run 24 = .ok (.iconst 0, 1) := by decide +kernel
theorem dX5_run_25 : decode cX5_run 25 = .ok (.istore 5, 2) := by decide +kernel
theorem dX5_run_27 : decode cX5_run 27 = .ok (.iload 5, 2) := by decide +kernel
theorem dX5_run_29 : decode cX5_run 29 = .ok (.iload_n 3, 1) := by decide +kernel
theorem dX5_run_30 : decode cX5_run 30 = .ok (.if_icmp .ge 44, 3) := by decide +kernel
theorem dX5_run_33 : decode cX5_run 33 = .ok (.aload_n 2, 1) := by decide +kernel
theorem dX5_run_34 : decode cX5_run 34 = .ok (.aload_n 0, 1) := by decide +kernel
theorem dX5_run_35 : decode cX5_run 35 = .ok (.aload_n 1, 1) := by decide +kernel
theorem dX5_run_36 : decode cX5_run 36 = .ok (.getfield 31, 3) := by decide +kernel
theorem dX5_run_39 : decode cX5_run 39 = .ok (.invokevirtual 36, 3) := by decide +kernel
theorem dX5_run_42 : decode cX5_run 42 = .ok (.invokevirtual 40, 3) := by decide +kernel
theorem dX5_run_45 : decode cX5_run 45 = .ok (.istore 6, 2) := by decide +kernel
theorem dX5_run_47 : decode cX5_run 47 = .ok (.iload 6, 2) := by decide +kernel
theorem dX5_run_49 : decode cX5_run 49 = .ok (.ifCond .lt 19, 3) := by decide +kernel
theorem dX5_run_52 : decode cX5_run 52 = .ok (.iload 6, 2) := by decide +kernel
theorem dX5_run_54 : decode cX5_run 54 = .ok (.aload_n 1, 1) := by decide +kernel
theorem dX5_run_55 : decode cX5_run 55 = .ok (.getfield 31, 3) := by decide +kernel
theorem dX5_run_58 : decode cX5_run 58 = .ok (.if_icmp .ge 10, 3) := by decide +kernel
theorem dX5_run_61 : decode cX5_run 61 = .ok (.aload_n 0, 1) := by decide +kernel
theorem dX5_run_62 : decode cX5_run 62 = .ok (.aload_n 1, 1) := by decide +kernel
theorem dX5_run_63 : decode cX5_run 63 = .ok (.iload 6, 2) := by decide +kernel
theorem dX5_run_65 : decode cX5_run 65 = .ok (.invokevirtual 45, 3) := by decide +kernel
theorem dX5_run_68 : decode cX5_run 68 = .ok (.iinc 5 1, 3) := by decide +kernel
theorem dX5_run_71 : decode cX5_run 71 = .ok (.goto (-44), 3) := by decide +kernel
theorem dX5_run_74 : decode cX5_run 74 = .ok (.return_, 1) := by decide +kernel
set_option maxRecDepth 20000 in
theorem ggX5_throwAt_X7_nextTo : GoodIn wsX5_throwAt wsX7_nextTo := goodIn_r _ [9] (by decide +kernel) (by decide +kernel)
set_option maxRecDepth 20000 in
theorem gX5_throwAt_X7_nextTo_n52 : GoodIn wsX5_throwAt (wsX7_nextTo) := ggX5_throwAt_X7_nextTo
set_option maxRecDepth 20000 in
theorem ggX5_throwAt_X7_tenthsOf : GoodIn wsX5_throwAt wsX7_tenthsOf := goodIn_r _ [11, 12, 13, 14, 15, 16, 17, 18, 19, 20, 8, 21, 22] (by decide +kernel) (by decide +kernel)
set_option maxRecDepth 20000 in
theorem gX5_throwAt_X7_tenthsOf_n59 : GoodIn wsX5_throwAt (wsX7_tenthsOf) := ggX5_throwAt_X7_tenthsOf
set_option maxRecDepth 20000 in
theorem ggX5_throwAt_X5_draw : GoodIn wsX5_throwAt wsX5_draw := goodIn_r _ [27, 28, 29, 30, 31, 32, 33, 34, 35] (by decide +kernel) (by decide +kernel)
set_option maxRecDepth 20000 in
theorem gX5_throwAt_X5_draw : GoodIn wsX5_throwAt (wsV RX5 36 RX5 yX5_draw wsX5_draw) := goodIn_app (goodIn_of _ (by decide +kernel)) ggX5_throwAt_X5_draw
theorem dX5_throwAt_0 : decode cX5_throwAt 0 = .ok (.aload_n 0, 1) := by decide +kernel
theorem dX5_throwAt_1 : decode cX5_throwAt 1 = .ok (.getfield 9, 3) := by decide +kernel
theorem dX5_throwAt_4 : decode cX5_throwAt 4 = .ok (.iload_n 2, 1) := by decide +kernel
theorem dX5_throwAt_5 : decode cX5_throwAt 5 = .ok (.iaload, 1) := by decide +kernel
theorem dX5_throwAt_6 : decode cX5_throwAt 6 = .ok (.aload_n 1, 1) := by decide +kernel
theorem dX5_throwAt_7 : decode cX5_throwAt 7 = .ok (.getfield 49, 3) := by decide +kernel
theorem dX5_throwAt_10 : decode cX5_throwAt 10 = .ok (.iload_n 2, 1) := by decide +kernel
theorem dX5_throwAt_11 : decode cX5_throwAt 11 = .ok (.iaload, 1) := by decide +kernel
theorem dX5_throwAt_12 : decode cX5_throwAt 12 = .ok (.if_icmp .lt 10, 3) := by decide +kernel
theorem dX5_throwAt_15 : decode cX5_throwAt 15 = .ok (.aload_n 0, 1) := by decide +kernel
theorem dX5_throwAt_16 : decode cX5_throwAt 16 = .ok (.getfield 9, 3) := by decide +kernel
theorem dX5_throwAt_19 : decode cX5_throwAt 19 = .ok (.iload_n 2, 1) := by decide +kernel
theorem dX5_throwAt_20 : decode cX5_throwAt 20 = .ok (.iconst 0, 1) := by decide +kernel
theorem dX5_throwAt_21 : decode cX5_throwAt 21 = .ok (.iastore, 1) := by decide +kernel
theorem dX5_throwAt_22 : decode cX5_throwAt 22 = .ok (.iload_n 2, 1) := by decide +kernel
theorem dX5_throwAt_23 : decode cX5_throwAt 23 = .ok (.aload_n 1, 1) := by decide +kernel
theorem dX5_throwAt_24 : decode cX5_throwAt 24 = .ok (.getfield 31, 3) := by decide +kernel
theorem dX5_throwAt_27 : decode cX5_throwAt 27 = .ok (.invokestatic 52, 3) := by decide +kernel
theorem dX5_throwAt_30 : decode cX5_throwAt 30 = .ok (.istore_n 3, 1) := by decide +kernel
theorem dX5_throwAt_31 : decode cX5_throwAt 31 = .ok (.aload_n 0, 1) := by decide +kernel
theorem dX5_throwAt_32 : decode cX5_throwAt 32 = .ok (.getfield 9, 3) := by decide +kernel
theorem dX5_throwAt_35 : decode cX5_throwAt 35 = .ok (.iload_n 3, 1) := by decide +kernel
theorem dX5_throwAt_36 : decode cX5_throwAt 36 = .ok (.iaload, 1) := by decide +kernel
theorem dX5_throwAt_37 : decode cX5_throwAt 37 = .ok (.aload_n 1, 1) := by decide +kernel
theorem dX5_throwAt_38 : decode cX5_throwAt 38 = .ok (.getfield 49, 3) := by decide +kernel
theorem dX5_throwAt_41 : decode cX5_throwAt 41 = .ok (.iload_n 3, 1) := by decide +kernel
theorem dX5_throwAt_42 : decode cX5_throwAt 42 = .ok (.iaload, 1) := by decide +kernel
theorem dX5_throwAt_43 : decode cX5_throwAt 43 = .ok (.if_icmp .lt 7, 3) := by decide +kernel
theorem dX5_throwAt_46 : decode cX5_throwAt 46 = .ok (.iconst 1, 1) := by decide +kernel
theorem dX5_throwAt_47 : decode cX5_throwAt 47 = .ok (.goto 4, 3) := by decide +kernel
theorem dX5_throwAt_50 : decode cX5_throwAt 50 = .ok (.iconst 0, 1) := by decide +kernel
theorem dX5_throwAt_51 : decode cX5_throwAt 51 = .ok (.istore 4, 2) := by decide +kernel
theorem dX5_throwAt_53 : decode cX5_throwAt 53 = .ok (.iconst 0, 1) := by decide +kernel
theorem dX5_throwAt_54 : decode cX5_throwAt 54 = .ok (.aload_n 1, 1) := by decide +kernel
theorem dX5_throwAt_55 : decode cX5_throwAt 55 = .ok (.getfield 56, 3) := by decide +kernel
theorem dX5_throwAt_58 : decode cX5_throwAt 58 = .ok (.iload_n 2, 1) := by decide +kernel
theorem dX5_throwAt_59 : decode cX5_throwAt 59 = .ok (.iaload, 1) := by decide +kernel
theorem dX5_throwAt_60 : decode cX5_throwAt 60 = .ok (.iload 4, 2) := by decide +kernel
theorem dX5_throwAt_62 : decode cX5_throwAt 62 = .ok (.iconst 0, 1) := by decide +kernel
theorem dX5_throwAt_63 : decode cX5_throwAt 63 = .ok (.invokestatic 59, 3) := by decide +kernel
theorem dX5_throwAt_66 : decode cX5_throwAt 66 = .ok (.istore 5, 2) := by decide +kernel
theorem dX5_throwAt_68 : decode cX5_throwAt 68 = .ok (.iload 5, 2) := by decide +kernel
theorem dX5_throwAt_70 : decode cX5_throwAt 70 = .ok (.iconst 0, 1) := by decide +kernel
theorem dX5_throwAt_71 : decode cX5_throwAt 71 = .ok (.aload_n 1, 1) := by decide +kernel
theorem dX5_throwAt_72 : decode cX5_throwAt 72 = .ok (.getfield 56, 3) := by decide +kernel
theorem dX5_throwAt_75 : decode cX5_throwAt 75 = .ok (.iload_n 2, 1) := by decide +kernel
theorem dX5_throwAt_76 : decode cX5_throwAt 76 = .ok (.iaload, 1) := by decide +kernel
theorem dX5_throwAt_77 : decode cX5_throwAt 77 = .ok (.iload 4, 2) := by decide +kernel
theorem dX5_throwAt_79 : decode cX5_throwAt 79 = .ok (.iconst 1, 1) := by decide +kernel
theorem dX5_throwAt_80 : decode cX5_throwAt 80 = .ok (.invokestatic 59, 3) := by decide +kernel
theorem dX5_throwAt_83 : decode cX5_throwAt 83 = .ok (.iadd, 1) := by decide +kernel
theorem dX5_throwAt_84 : decode cX5_throwAt 84 = .ok (.istore 6, 2) := by decide +kernel
theorem dX5_throwAt_86 : decode cX5_throwAt 86 = .ok (.aload_n 0, 1) := by decide +kernel
theorem dX5_throwAt_87 : decode cX5_throwAt 87 = .ok (.bipush 10, 2) := by decide +kernel
theorem dX5_throwAt_89 : decode cX5_throwAt 89 = .ok (.invokevirtual 36, 3) := by decide +kernel
theorem dX5_throwAt_92 : decode cX5_throwAt 92 = .ok (.istore 7, 2) := by decide +kernel
theorem dX5_throwAt_94 : decode cX5_throwAt 94 = .ok (.iload 7, 2) := by decide +kernel
theorem dX5_throwAt_96 : decode cX5_throwAt 96 = .ok (.iload 5, 2) := by decide +kernel
theorem dX5_throwAt_98 : decode cX5_throwAt 98 = .ok (.if_icmp .lt 31, 3) := by decide +kernel
theorem dX5_throwAt_101 : decode cX5_throwAt 101 = .ok (.iload 7, 2) := by decide +kernel
theorem dX5_throwAt_103 : decode cX5_throwAt 103 = .ok (.iload 6, 2) := by decide +kernel
theorem dX5_throwAt_105 : decode cX5_throwAt 105 = .ok (.if_icmp .ge 24, 3) := by decide +kernel
theorem dX5_throwAt_108 : decode cX5_throwAt 108 = .ok (.aload_n 0, 1) := by decide +kernel
theorem dX5_throwAt_109 : decode cX5_throwAt 109 = .ok (.dup, 1) := by decide +kernel
theorem dX5_throwAt_110 : decode cX5_throwAt 110 = .ok (.getfield 25, 3) := by decide +kernel
theorem dX5_throwAt_113 : decode cX5_throwAt 113 = .ok (.iconst 1, 1) := by decide +kernel
theorem dX5_throwAt_114 : decode cX5_throwAt 114 = .ok (.iadd, 1) := by decide +kernel
theorem dX5_throwAt_115 : decode cX5_throwAt 115 = .ok (.putfield 25, 3) := by decide +kernel
theorem dX5_throwAt_118 : decode cX5_throwAt 118 = .ok (.aload_n 0, 1) := by decide +kernel
theorem dX5_throwAt_119 : decode cX5_throwAt 119 = .ok (.getfield 9, 3) := by decide +kernel
theorem dX5_throwAt_122 : decode cX5_throwAt 122 = .ok (.iload_n 3, 1) := by decide +kernel
theorem dX5_throwAt_123 : decode cX5_throwAt 123 = .ok (.dup2, 1) := by decide +kernel
theorem dX5_throwAt_124 : decode cX5_throwAt 124 = .ok (.iaload, 1) := by decide +kernel
theorem dX5_throwAt_125 : decode cX5_throwAt 125 = .ok (.iconst 1, 1) := by decide +kernel
theorem dX5_throwAt_126 : decode cX5_throwAt 126 = .ok (.iadd, 1) := by decide +kernel
theorem dX5_throwAt_127 : decode cX5_throwAt 127 = .ok (.iastore, 1) := by decide +kernel
theorem dX5_throwAt_128 : decode cX5_throwAt 128 = .ok (.return_, 1) := by decide +kernel
theorem dX5_throwAt_129 : decode cX5_throwAt 129 = .ok (.iload 7, 2) := by decide +kernel
theorem dX5_throwAt_131 : decode cX5_throwAt 131 = .ok (.iload 6, 2) := by decide +kernel
theorem dX5_throwAt_133 : decode cX5_throwAt 133 = .ok (.if_icmp .lt 13, 3) := by decide +kernel
theorem dX5_throwAt_136 : decode cX5_throwAt 136 = .ok (.aload_n 0, 1) := by decide +kernel
theorem dX5_throwAt_137 : decode cX5_throwAt 137 = .ok (.dup, 1) := by decide +kernel
theorem dX5_throwAt_138 : decode cX5_throwAt 138 = .ok (.getfield 28, 3) := by decide +kernel
theorem dX5_throwAt_141 : decode cX5_throwAt 141 = .ok (.iconst 1, 1) := by decide +kernel
theorem dX5_throwAt_142 : decode cX5_throwAt 142 = .ok (.iadd, 1) := by decide +kernel
theorem dX5_throwAt_143 : decode cX5_throwAt 143 = .ok (.putfield 28, 3) := by decide +kernel
theorem dX5_throwAt_146 : decode cX5_throwAt 146 = .ok (.aload_n 0, 1) := by decide +kernel
theorem dX5_throwAt_147 : decode cX5_throwAt 147 = .ok (.getfield 9, 3) := by decide +kernel
theorem dX5_throwAt_150 : decode cX5_throwAt 150 = .ok (.iload_n 2, 1) := by decide +kernel
theorem dX5_throwAt_151 : decode cX5_throwAt 151 = .ok (.dup2, 1) := by decide +kernel
theorem dX5_throwAt_152 : decode cX5_throwAt 152 = .ok (.iaload, 1) := by decide +kernel
theorem dX5_throwAt_153 : decode cX5_throwAt 153 = .ok (.iconst 1, 1) := by decide +kernel
theorem dX5_throwAt_154 : decode cX5_throwAt 154 = .ok (.iadd, 1) := by decide +kernel
theorem dX5_throwAt_155 : decode cX5_throwAt 155 = .ok (.iastore, 1) := by decide +kernel
theorem dX5_throwAt_156 : decode cX5_throwAt 156 = .ok (.return_, 1) := by decide +kernel
theorem dX5_draw_0 : decode cX5_draw 0 = .ok (.aload_n 0, 1) := by decide +kernel
theorem dX5_draw_1 : decode cX5_draw 1 = .ok (.ldc2_w 63, 3) := by decide +kernel
theorem dX5_draw_4 : decode cX5_draw 4 = .ok (.aload_n 0, 1) := by decide +kernel
theorem dX5_draw_5 : decode cX5_draw 5 = .ok (.getfield 21, 3) := by decide +kernel
theorem dX5_draw_8 : decode cX5_draw 8 = .ok (.i2l, 1) := by decide +kernel
theorem dX5_draw_9 : decode cX5_draw 9 = .ok (.lmul, 1) := by decide +kernel
theorem dX5_draw_10 : decode cX5_draw 10 = .ok (.ldc2_w 65, 3) := by decide +kernel
theorem dX5_draw_13 : decode cX5_draw 13 = .ok (.ladd, 1) := by decide +kernel
theorem dX5_draw_14 : decode cX5_draw 14 = .ok (.ldc2_w 67, 3) := by decide +kernel
theorem dX5_draw_17 : decode cX5_draw 17 = .ok (.land, 1) := by decide +kernel
theorem dX5_draw_18 : decode cX5_draw 18 = .ok (.l2i, 1) := by decide +kernel
theorem dX5_draw_19 : decode cX5_draw 19 = .ok (.putfield 21, 3) := by decide +kernel
theorem dX5_draw_22 : decode cX5_draw 22 = .ok (.iload_n 1, 1) := by decide +kernel
theorem dX5_draw_23 : decode cX5_draw 23 = .ok (.ifCond .le 15, 3) := by decide +kernel
theorem dX5_draw_26 : decode cX5_draw 26 = .ok (.aload_n 0, 1) := by decide +kernel
theorem dX5_draw_27 : decode cX5_draw 27 = .ok (.getfield 21, 3) := by decide +kernel
theorem dX5_draw_30 : decode cX5_draw 30 = .ok (.bipush 16, 2) := by decide +kernel
theorem dX5_draw_32 : decode cX5_draw 32 = .ok (.ishr, 1) := by decide +kernel
theorem dX5_draw_33 : decode cX5_draw 33 = .ok (.iload_n 1, 1) := by decide +kernel
theorem dX5_draw_34 : decode cX5_draw 34 = .ok (.irem, 1) := by decide +kernel
theorem dX5_draw_35 : decode cX5_draw 35 = .ok (.goto 4, 3) := by decide +kernel
theorem dX5_draw_38 : decode cX5_draw 38 = .ok (.iconst 0, 1) := by decide +kernel
theorem dX5_draw_39 : decode cX5_draw 39 = .ok (.ireturn, 1) := by decide +kernel
theorem dX6_init_0 : decode cX6_init 0 = .ok (.aload_n 0, 1) := by decide +kernel
theorem dX6_init_1 : decode cX6_init 1 = .ok (.invokespecial 3, 3) := by decide +kernel
theorem dX6_init_4 : decode cX6_init 4 = .ok (.aload_n 0, 1) := by decide +kernel
theorem dX6_init_5 : decode cX6_init 5 = .ok (.bipush 6, 2) := by decide +kernel
theorem dX6_init_7 : decode cX6_init 7 = .ok (.newarray .int, 2) := by decide +kernel
theorem dX6_init_9 : decode cX6_init 9 = .ok (.putfield 9, 3) := by decide +kernel
theorem dX6_init_12 : decode cX6_init 12 = .ok (.aload_n 0, 1) := by decide +kernel
theorem dX6_init_13 : decode cX6_init 13 = .ok (.bipush 6, 2) := by decide +kernel
theorem dX6_init_15 : decode cX6_init 15 = .ok (.newarray .int, 2) := by decide +kernel
theorem dX6_init_17 : decode cX6_init 17 = .ok (.putfield 15, 3) := by decide +kernel
theorem dX6_init_20 : decode cX6_init 20 = .ok (.aload_n 0, 1) := by decide +kernel
theorem dX6_init_21 : decode cX6_init 21 = .ok (.bipush 6, 2) := by decide +kernel
theorem dX6_init_23 : decode cX6_init 23 = .ok (.newarray .int, 2) := by decide +kernel
theorem dX6_init_25 : decode cX6_init 25 = .ok (.putfield 18, 3) := by decide +kernel
theorem dX6_init_28 : decode cX6_init 28 = .ok (.return_, 1) := by decide +kernel
set_option maxRecDepth 20000 in
theorem ggX6_seek_J7_fill_53178 : GoodIn wsX6_seek wsJ7_fill_53178 := goodIn_r _ [11] (by decide +kernel) (by decide +kernel)
set_option maxRecDepth 20000 in
theorem gX6_seek_J7_fill_53178 : GoodIn wsX6_seek (va_wsS RX6 29 yJ7_fill_53178 wsJ7_fill_53178) := goodIn_app (goodIn_of _ (by decide +kernel)) ggX6_seek_J7_fill_53178
set_option maxRecDepth 20000 in
theorem ggX6_seek_X6_askAllFound : GoodIn wsX6_seek wsX6_askAllFound := goodIn_r _ [16, 17, 18, 19, 20, 8, 9, 10, 11, 33, 34, 35, 36, 37, 38, 39, 40, 41, 42, 43, 44, 45] (by decide +kernel) (by decide +kernel)
set_option maxRecDepth 20000 in
theorem gX6_seek_X6_askAllFound : GoodIn wsX6_seek (wsV RX6 35 RX6 yX6_askAllFound wsX6_askAllFound) := goodIn_app (goodIn_of _ (by decide +kernel)) ggX6_seek_X6_askAllFound
set_option maxRecDepth 20000 in
theorem ggX6_seek_X6_hangFrom : GoodIn wsX6_seek wsX6_hangFrom := goodIn_r _ [23, 24, 25, 26, 27, 15, 28, 2, 3, 29, 30, 31, 32, 17, 21, 22, 33, 34, 35, 36, 37] (by decide +kernel) (by decide +kernel)
set_option maxRecDepth 20000 in
theorem gX6_seek_X6_hangFrom : GoodIn wsX6_seek (va_wsS RX6 45 yX6_hangFrom wsX6_hangFrom) := goodIn_app (goodIn_of _ (by decide +kernel)) ggX6_seek_X6_hangFrom
theorem dX6_seek_0 : decode cX6_seek 0 = .ok (.aload_n 0, 1) := by decide +kernel
theorem dX6_seek_1 : decode cX6_seek 1 = .ok (.getfield 21, 3) := by decide +kernel
theorem dX6_seek_4 : decode cX6_seek 4 = .ok (.ifCond .eq 4, 3) := by decide +kernel
theorem dX6_seek_7 : decode cX6_seek 7 = .ok (.return_, 1) := by decide +kernel
theorem dX6_seek_8 : decode cX6_seek 8 = .ok (.aload_n 0, 1) := by decide +kernel
theorem dX6_seek_9 : decode cX6_seek 9 = .ok (.iconst 1, 1) := by decide +kernel
theorem dX6_seek_10 : decode cX6_seek 10 = .ok (.putfield 21, 3) := by decide +kernel
theorem dX6_seek_13 : decode cX6_seek 13 = .ok (.aload_n 0, 1) := by decide +kernel
theorem dX6_seek_14 : decode cX6_seek 14 = .ok (.iconst 0, 1) := by decide +kernel
theorem dX6_seek_15 : decode cX6_seek 15 = .ok (.putfield 25, 3) := by decide +kernel
theorem dX6_seek_18 : decode cX6_seek 18 = .ok (.aload_n 0, 1) := by decide +kernel
theorem dX6_seek_19 : decode cX6_seek 19 = .ok (.getfield 18, 3) := by decide +kernel
theorem dX6_seek_22 : decode cX6_seek 22 = .ok (.iconst 0, 1) := by decide +kernel
theorem dX6_seek_23 : decode cX6_seek 23 = .ok (.invokestatic 29, 3) := by decide +kernel
theorem dX6_seek_26 : decode cX6_seek 26 = .ok (.aload_n 0, 1) := by decide +kernel
theorem dX6_seek_27 : decode cX6_seek 27 = .ok (.aload_n 1, 1) := by decide +kernel
theorem dX6_seek_28 : decode cX6_seek 28 = .ok (.invokevirtual 35, 3) := by decide +kernel
theorem dX6_seek_31 : decode cX6_seek 31 = .ok (.ifCond .eq 15, 3) := by decide +kernel
theorem dX6_seek_34 : decode cX6_seek 34 = .ok (.aload_n 0, 1) := by decide +kernel
theorem dX6_seek_35 : decode cX6_seek 35 = .ok (.iconst 0, 1) := by decide +kernel
theorem dX6_seek_36 : decode cX6_seek 36 = .ok (.iconst 0, 1) := by decide +kernel
theorem dX6_seek_37 : decode cX6_seek 37 = .ok (.iload_n 2, 1) := by decide +kernel
theorem dX6_seek_38 : decode cX6_seek 38 = .ok (.bipush 6, 2) := by decide +kernel
theorem dX6_seek_40 : decode cX6_seek 40 = .ok (.invokestatic 39, 3) := by decide +kernel
theorem dX6_seek_43 : decode cX6_seek 43 = .ok (.invokestatic 45, 3) := by decide +kernel
theorem dX6_seek_46 : decode cX6_seek 46 = .ok (.return_, 1) := by decide +kernel
set_option maxRecDepth 20000 in
theorem ggX6_askAllFound_J7_fill_53178 : GoodIn wsX6_askAllFound wsJ7_fill_53178 := goodIn_r _ [8] (by decide +kernel) (by decide +kernel)
set_option maxRecDepth 20000 in
theorem gX6_askAllFound_J7_fill_53178 : GoodIn wsX6_askAllFound (va_wsS RX6 29 yJ7_fill_53178 wsJ7_fill_53178) := goodIn_app (goodIn_of _ (by decide +kernel)) ggX6_askAllFound_J7_fill_53178
theorem dX6_askAllFound_0 : decode cX6_askAllFound 0 = .ok (.aload_n 0, 1) := by decide +kernel
theorem dX6_askAllFound_1 : decode cX6_askAllFound 1 = .ok (.getfield 15, 3) := by decide +kernel
theorem dX6_askAllFound_4 : decode cX6_askAllFound 4 = .ok (.iconst (-1), 1) := by decide +kernel
theorem dX6_askAllFound_5 : decode cX6_askAllFound 5 = .ok (.invokestatic 29, 3) := by decide +kernel
theorem dX6_askAllFound_8 : decode cX6_askAllFound 8 = .ok (.iconst 0, 1) := by decide +kernel
theorem dX6_askAllFound_9 : decode cX6_askAllFound 9 = .ok (.istore_n 2, 1) := by decide +kernel
theorem dX6_askAllFound_10 : decode cX6_askAllFound 10 = .ok (.iload_n 2, 1) := by decide +kernel
theorem dX6_askAllFound_11 : decode cX6_askAllFound 11 = .ok (.aload_n 1, 1) := by decide +kernel
theorem dX6_askAllFound_12 : decode cX6_askAllFound 12 = .ok (.getfield 49, 3) := by decide +kernel
theorem dX6_askAllFound_15 : decode cX6_askAllFound 15 = .ok (.if_icmp .ge 55, 3) := by decide +kernel
theorem dX6_askAllFound_18 : decode cX6_askAllFound 18 = .ok (.aload_n 1, 1) := by decide +kernel
theorem dX6_askAllFound_19 : decode cX6_askAllFound 19 = .ok (.getfield 54, 3) := by decide +kernel
theorem dX6_askAllFound_22 : decode cX6_askAllFound 22 = .ok (.iload_n 2, 1) := by decide +kernel
theorem dX6_askAllFound_23 : decode cX6_askAllFound 23 = .ok (.iaload, 1) := by decide +kernel
theorem dX6_askAllFound_24 : decode cX6_askAllFound 24 = .ok (.istore_n 3, 1) := by decide +kernel
theorem dX6_askAllFound_25 : decode cX6_askAllFound 25 = .ok (.aload_n 1, 1) := by decide +kernel
theorem dX6_askAllFound_26 : decode cX6_askAllFound 26 = .ok (.getfield 57, 3) := by decide +kernel
theorem dX6_askAllFound_29 : decode cX6_askAllFound 29 = .ok (.iload_n 2, 1) := by decide +kernel
theorem dX6_askAllFound_30 : decode cX6_askAllFound 30 = .ok (.iaload, 1) := by decide +kernel
theorem dX6_askAllFound_31 : decode cX6_askAllFound 31 = .ok (.istore 4, 2) := by decide +kernel
theorem dX6_askAllFound_33 : decode cX6_askAllFound 33 = .ok (.aload_n 0, 1) := by decide +kernel
theorem dX6_askAllFound_34 : decode cX6_askAllFound 34 = .ok (.getfield 15, 3) := by decide +kernel
theorem dX6_askAllFound_37 : decode cX6_askAllFound 37 = .ok (.iload_n 3, 1) := by decide +kernel
theorem dX6_askAllFound_38 : decode cX6_askAllFound 38 = .ok (.iaload, 1) := by decide +kernel
theorem dX6_askAllFound_39 : decode cX6_askAllFound 39 = .ok (.iconst (-1), 1) := by decide +kernel
theorem dX6_askAllFound_40 : decode cX6_askAllFound 40 = .ok (.if_icmp .eq 16, 3) := by decide +kernel
theorem dX6_askAllFound_43 : decode cX6_askAllFound 43 = .ok (.aload_n 0, 1) := by decide +kernel
theorem dX6_askAllFound_44 : decode cX6_askAllFound 44 = .ok (.getfield 15, 3) := by decide +kernel
theorem dX6_askAllFound_47 : decode cX6_askAllFound 47 = .ok (.iload_n 3, 1) := by decide +kernel
theorem dX6_askAllFound_48 : decode cX6_askAllFound 48 = .ok (.iaload, 1) := by decide +kernel
theorem dX6_askAllFound_49 : decode cX6_askAllFound 49 = .ok (.iload 4, 2) := by decide +kernel
theorem dX6_askAllFound_51 : decode cX6_askAllFound 51 = .ok (.if_icmp .eq 5, 3) := by decide +kernel
theorem dX6_askAllFound_54 : decode cX6_askAllFound 54 = .ok (.iconst 0, 1) := by decide +kernel
theorem dX6_askAllFound_55 : decode cX6_askAllFound 55 = .ok (.ireturn, 1) := by decide +kernel
theorem dX6_askAllFound_56 : decode cX6_askAllFound 56 = .ok (.aload_n 0, 1) := by decide +kernel
theorem dX6_askAllFound_57 : decode cX6_askAllFound 57 = .ok (.getfield 15, 3) := by decide +kernel
theorem dX6_askAllFound_60 : decode cX6_askAllFound 60 = .ok (.iload_n 3, 1) := by decide +kernel
theorem dX6_askAllFound_61 : decode cX6_askAllFound 61 = .ok (.iload 4, 2) := by decide +kernel
theorem dX6_askAllFound_63 : decode cX6_askAllFound 63 = .ok (.iastore, 1) := by decide +kernel
theorem dX6_askAllFound_64 : decode cX6_askAllFound 64 = .ok (.iinc 2 1, 3) := by decide +kernel
theorem dX6_askAllFound_67 : decode cX6_askAllFound 67 = .ok (.goto (-57), 3) := by decide +kernel
theorem dX6_askAllFound_70 : decode cX6_askAllFound 70 = .ok (.iconst 1, 1) := by decide +kernel
theorem dX6_askAllFound_71 : decode cX6_askAllFound 71 = .ok (.ireturn, 1) := by decide +kernel
set_option maxRecDepth 20000 in
theorem ggX6_hangFrom_X6_keep : GoodIn wsX6_hangFrom wsX6_keep := goodIn_r _ [6, 7, 8, 1, 16, 17, 18, 19, 20] (by decide +kernel) (by decide +kernel)
set_option maxRecDepth 20000 in
theorem gX6_hangFrom_X6_keep : GoodIn wsX6_hangFrom (wsV RX6 60 RX6 yX6_keep wsX6_keep) := goodIn_app (goodIn_of _ (by decide +kernel)) ggX6_hangFrom_X6_keep
set_option maxRecDepth 20000 in
theorem ggX6_hangFrom_X6_canHang : GoodIn wsX6_hangFrom wsX6_canHang := goodIn_r _ [12, 1, 13, 16, 17, 18, 19, 20] (by decide +kernel) (by decide +kernel)
set_option maxRecDepth 20000 in
theorem gX6_hangFrom_X6_canHang : GoodIn wsX6_hangFrom (wsV RX6 64 RX6 yX6_canHang wsX6_canHang) := goodIn_app (goodIn_of _ (by decide +kernel)) ggX6_hangFrom_X6_canHang
set_option maxRecDepth 20000 in
theorem ggX6_hangFrom_X6_hangFrom : GoodIn wsX6_hangFrom wsX6_hangFrom := goodIn_r _ [0, 1, 2, 3, 4, 5, 6, 7, 8, 9, 10, 11, 12, 13, 14, 15, 16, 17, 18, 19, 20] (by decide +kernel) (by decide +kernel)
set_option maxRecDepth 20000 in
theorem gX6_hangFrom_X6_hangFrom : GoodIn wsX6_hangFrom (va_wsS RX6 45 yX6_hangFrom wsX6_hangFrom) := goodIn_app (goodIn_of _ (by decide +kernel)) ggX6_hangFrom_X6_hangFrom
theorem dX6_hangFrom_0 : decode cX6_hangFrom 0 = .ok (.iload_n 1, 1) := by decide +kernel
theorem dX6_hangFrom_1 : decode cX6_hangFrom 1 = .ok (.iload_n 3, 1) := by decide +kernel
theorem dX6_hangFrom_2 : decode cX6_hangFrom 2 = .ok (.if_icmp .lt 9, 3) := by decide +kernel
theorem dX6_hangFrom_5 : decode cX6_hangFrom 5 = .ok (.aload_n 0, 1) := by decide +kernel
theorem dX6_hangFrom_6 : decode cX6_hangFrom 6 = .ok (.iload_n 3, 1) := by decide +kernel
theorem dX6_hangFrom_7 : decode cX6_hangFrom 7 = .ok (.invokevirtual 60, 3) := by decide +kernel
theorem dX6_hangFrom_10 : decode cX6_hangFrom 10 = .ok (.return_, 1) := by decide +kernel
theorem dX6_hangFrom_11 : decode cX6_hangFrom 11 = .ok (.iconst 0, 1) := by decide +kernel
theorem dX6_hangFrom_12 : decode cX6_hangFrom 12 = .ok (.istore 4, 2) := by decide +kernel
theorem dX6_hangFrom_14 : decode cX6_hangFrom 14 = .ok (.iload 4, 2) := by decide +kernel
theorem dX6_hangFrom_16 : decode cX6_hangFrom 16 = .ok (.iload_n 3, 1) := by decide +kernel
theorem dX6_hangFrom_17 : decode cX6_hangFrom 17 = .ok (.if_icmp .ge 51, 3) := by decide +kernel
theorem dX6_hangFrom_20 : decode cX6_hangFrom 20 = .ok (.iload_n 2, 1) := by decide +kernel
theorem dX6_hangFrom_21 : decode cX6_hangFrom 21 = .ok (.iload 4, 2) := by decide +kernel
theorem dX6_hangFrom_23 : decode cX6_hangFrom 23 = .ok (.ishr, 1) := by decide +kernel
theorem dX6_hangFrom_24 : decode cX6_hangFrom 24 = .ok (.iconst 1, 1) := by decide +kernel
theorem dX6_hangFrom_25 : decode cX6_hangFrom 25 = .ok (.iand, 1) := by decide +kernel
theorem dX6_hangFrom_26 : decode cX6_hangFrom 26 = .ok (.ifCond .ne 36, 3) := by decide +kernel
theorem dX6_hangFrom_29 : decode cX6_hangFrom 29 = .ok (.aload_n 0, 1) := by decide +kernel
theorem dX6_hangFrom_30 : decode cX6_hangFrom 30 = .ok (.iload 4, 2) := by decide +kernel
theorem dX6_hangFrom_32 : decode cX6_hangFrom 32 = .ok (.iload_n 1, 1) := by decide +kernel
theorem dX6_hangFrom_33 : decode cX6_hangFrom 33 = .ok (.iload_n 3, 1) := by decide +kernel
theorem dX6_hangFrom_34 : decode cX6_hangFrom 34 = .ok (.invokevirtual 64, 3) := by decide +kernel
theorem dX6_hangFrom_37 : decode cX6_hangFrom 37 = .ok (.ifCond .eq 25, 3) := by decide +kernel
theorem dX6_hangFrom_40 : decode cX6_hangFrom 40 = .ok (.aload_n 0, 1) := by decide +kernel
theorem dX6_hangFrom_41 : decode cX6_hangFrom 41 = .ok (.getfield 9, 3) := by decide +kernel
theorem dX6_hangFrom_44 : decode cX6_hangFrom 44 = .ok (.iload_n 1, 1) := by decide +kernel
theorem dX6_hangFrom_45 : decode cX6_hangFrom 45 = .ok (.iload 4, 2) := by decide +kernel
theorem dX6_hangFrom_47 : decode cX6_hangFrom 47 = .ok (.iastore, 1) := by decide +kernel
theorem dX6_hangFrom_48 : decode cX6_hangFrom 48 = .ok (.aload_n 0, 1) := by decide +kernel
theorem dX6_hangFrom_49 : decode cX6_hangFrom 49 = .ok (.iload_n 1, 1) := by decide +kernel
theorem dX6_hangFrom_50 : decode cX6_hangFrom 50 = .ok (.iconst 1, 1) := by decide +kernel
theorem dX6_hangFrom_51 : decode cX6_hangFrom 51 = .ok (.iadd, 1) := by decide +kernel
theorem dX6_hangFrom_52 : decode cX6_hangFrom 52 = .ok (.iload_n 2, 1) := by decide +kernel
theorem dX6_hangFrom_53 : decode cX6_hangFrom 53 = .ok (.iconst 1, 1) := by decide +kernel
theorem dX6_hangFrom_54 : decode cX6_hangFrom 54 = .ok (.iload 4, 2) := by decide +kernel
theorem dX6_hangFrom_56 : decode cX6_hangFrom 56 = .ok (.ishl, 1) := by decide +kernel
theorem dX6_hangFrom_57 : decode cX6_hangFrom 57 = .ok (.ior, 1) := by decide +kernel
theorem dX6_hangFrom_58 : decode cX6_hangFrom 58 = .ok (.iload_n 3, 1) := by decide +kernel
theorem dX6_hangFrom_59 : decode cX6_hangFrom 59 = .ok (.invokestatic 45, 3) := by decide +kernel
theorem dX6_hangFrom_62 : decode cX6_hangFrom 62 = .ok (.iinc 4 1, 3) := by decide +kernel
theorem dX6_hangFrom_65 : decode cX6_hangFrom 65 = .ok (.goto (-51), 3) := by decide +kernel
theorem dX6_hangFrom_68 : decode cX6_hangFrom 68 = .ok (.return_, 1) := by decide +kernel
theorem dX6_canHang_0 : decode cX6_canHang 0 = .ok (.iload_n 2, 1) := by decide +kernel
theorem dX6_canHang_1 : decode cX6_canHang 1 = .ok (.ifCond .ne 5, 3) := by decide +kernel
theorem dX6_canHang_4 : decode cX6_canHang 4 = .ok (.iconst 1, 1) := by decide +kernel
theorem dX6_canHang_5 : decode cX6_canHang 5 = .ok (.ireturn, 1) := by decide +kernel
theorem dX6_canHang_6 : decode cX6_canHang 6 = .ok (.aload_n 0, 1) := by decide +kernel
theorem dX6_canHang_7 : decode cX6_canHang 7 = .ok (.getfield 9, 3) := by decide +kernel
theorem dX6_canHang_10 : decode cX6_canHang 10 = .ok (.iload_n 2, 1) := by decide +kernel
theorem dX6_canHang_11 : decode cX6_canHang 11 = .ok (.iconst 1, 1) := by decide +kernel
theorem dX6_canHang_12 : decode cX6_canHang 12 = .ok (.isub, 1) := by decide +kernel
theorem dX6_canHang_13 : decode cX6_canHang 13 = .ok (.iaload, 1) := by decide +kernel
theorem dX6_canHang_14 : decode cX6_canHang 14 = .ok (.istore 4, 2) := by decide +kernel
theorem dX6_canHang_16 : decode cX6_canHang 16 = .ok (.aload_n 0, 1) := by decide +kernel
theorem dX6_canHang_17 : decode cX6_canHang 17 = .ok (.getfield 15, 3) := by decide +kernel
theorem dX6_canHang_20 : decode cX6_canHang 20 = .ok (.iload 4, 2) := by decide +kernel
theorem dX6_canHang_22 : decode cX6_canHang 22 = .ok (.iaload, 1) := by decide +kernel
theorem dX6_canHang_23 : decode cX6_canHang 23 = .ok (.iconst (-1), 1) := by decide +kernel
theorem dX6_canHang_24 : decode cX6_canHang 24 = .ok (.if_icmp .eq 16, 3) := by decide +kernel
theorem dX6_canHang_27 : decode cX6_canHang 27 = .ok (.aload_n 0, 1) := by decide +kernel
theorem dX6_canHang_28 : decode cX6_canHang 28 = .ok (.getfield 15, 3) := by decide +kernel
theorem dX6_canHang_31 : decode cX6_canHang 31 = .ok (.iload 4, 2) := by decide +kernel
theorem dX6_canHang_33 : decode cX6_canHang 33 = .ok (.iaload, 1) := by decide +kernel
theorem dX6_canHang_34 : decode cX6_canHang 34 = .ok (.iload_n 1, 1) := by decide +kernel
theorem dX6_canHang_35 : decode cX6_canHang 35 = .ok (.if_icmp .eq 5, 3) := by decide +kernel
theorem dX6_canHang_38 : decode cX6_canHang 38 = .ok (.iconst 0, 1) := by decide +kernel
theorem dX6_canHang_39 : decode cX6_canHang 39 = .ok (.ireturn, 1) := by decide +kernel
theorem dX6_canHang_40 : decode cX6_canHang 40 = .ok (.iload_n 2, 1) := by decide +kernel
theorem dX6_canHang_41 : decode cX6_canHang 41 = .ok (.iload_n 3, 1) := by decide +kernel
theorem dX6_canHang_42 : decode cX6_canHang 42 = .ok (.iconst 1, 1) := by decide +kernel
theorem dX6_canHang_43 : decode cX6_canHang 43 = .ok (.isub, 1) := by decide +kernel
theorem dX6_canHang_44 : decode cX6_canHang 44 = .ok (.if_icmp .lt 24, 3) := by decide +kernel
theorem dX6_canHang_47 : decode cX6_canHang 47 = .ok (.aload_n 0, 1) := by decide +kernel
theorem dX6_canHang_48 : decode cX6_canHang 48 = .ok (.getfield 15, 3) := by decide +kernel
theorem dX6_canHang_51 : decode cX6_canHang 51 = .ok (.iload_n 1, 1) := by decide +kernel
theorem dX6_canHang_52 : decode cX6_canHang 52 = .ok (.iaload, 1) := by decide +kernel
theorem dX6_canHang_53 : decode cX6_canHang 53 = .ok (.iconst (-1), 1) := by decide +kernel
theorem dX6_canHang_54 : decode cX6_canHang 54 = .ok (.if_icmp .eq 14, 3) := by decide +kernel
theorem dX6_canHang_57 : decode cX6_canHang 57 = .ok (.aload_n 0, 1) := by decide +kernel
theorem dX6_canHang_58 : decode cX6_canHang 58 = .ok (.getfield 15, 3) := by decide +kernel
theorem dX6_canHang_61 : decode cX6_canHang 61 = .ok (.iload_n 1, 1) := by decide +kernel
theorem dX6_canHang_62 : decode cX6_canHang 62 = .ok (.iaload, 1) := by decide +kernel
theorem dX6_canHang_63 : decode cX6_canHang 63 = .ok (.iload 4, 2) := by decide +kernel
theorem dX6_canHang_65 : decode cX6_canHang 65 = .ok (.if_icmp .ne 7, 3) := by decide +kernel
theorem dX6_canHang_68 : decode cX6_canHang 68 = .ok (.iconst 1, 1) := by decide +kernel
theorem dX6_canHang_69 : decode cX6_canHang 69 = .ok (.goto 4, 3) := by decide +kernel
theorem dX6_canHang_72 : decode cX6_canHang 72 = .ok (.iconst 0, 1) := by decide +kernel
theorem dX6_canHang_73 : decode cX6_canHang 73 = .ok (.ireturn, 1) := by decide +kernel
theorem dX6_keep_0 : decode cX6_keep 0 = .ok (.aload_n 0, 1) := by decide +kernel
theorem dX6_keep_1 : decode cX6_keep 1 = .ok (.dup, 1) := by decide +kernel
theorem dX6_keep_2 : decode cX6_keep 2 = .ok (.getfield 25, 3) := by decide +kernel
theorem dX6_keep_5 : decode cX6_keep 5 = .ok (.iconst 1, 1) := by decide +kernel
theorem dX6_keep_6 : decode cX6_keep 6 = .ok (.iadd, 1) := by decide +kernel
theorem dX6_keep_7 : decode cX6_keep 7 = .ok (.putfield 25, 3) := by decide +kernel
theorem dX6_keep_10 : decode cX6_keep 10 = .ok (.iconst 0, 1) := by decide +kernel
theorem dX6_keep_11 : decode cX6_keep 11 = .ok (.istore_n 2, 1) := by decide +kernel
theorem dX6_keep_12 : decode cX6_keep 12 = .ok (.iload_n 2, 1) := by decide +kernel
theorem dX6_keep_13 : decode cX6_keep 13 = .ok (.iload_n 1, 1) := by decide +kernel
theorem dX6_keep_14 : decode cX6_keep 14 = .ok (.if_icmp .ge 26, 3) := by decide +kernel
theorem dX6_keep_17 : decode cX6_keep 17 = .ok (.aload_n 0, 1) := by decide +kernel
theorem dX6_keep_18 : decode cX6_keep 18 = .ok (.getfield 18, 3) := by decide +kernel
theorem dX6_keep_21 : decode cX6_keep 21 = .ok (.aload_n 0, 1) := by decide +kernel
theorem dX6_keep_22 : decode cX6_keep 22 = .ok (.getfield 9, 3) := by decide +kernel
theorem dX6_keep_25 : decode cX6_keep 25 = .ok (.iload_n 2, 1) := by decide +kernel
theorem dX6_keep_26 : decode cX6_keep 26 = .ok (.iaload, 1) := by decide +kernel
theorem dX6_keep_27 : decode cX6_keep 27 = .ok (.dup2, 1) := by decide +kernel
theorem dX6_keep_28 : decode cX6_keep 28 = .ok (.iaload, 1) := by decide +kernel
theorem dX6_keep_29 : decode cX6_keep 29 = .ok (.iconst 1, 1) := by decide +kernel
theorem dX6_keep_30 : decode cX6_keep 30 = .ok (.iload_n 2, 1) := by decide +kernel
theorem dX6_keep_31 : decode cX6_keep 31 = .ok (.ishl, 1) := by decide +kernel
theorem dX6_keep_32 : decode cX6_keep 32 = .ok (.ior, 1) := by decide +kernel
theorem dX6_keep_33 : decode cX6_keep 33 = .ok (.iastore, 1) := by decide +kernel
theorem dX6_keep_34 : decode cX6_keep 34 = .ok (.iinc 2 1, 3) := by decide +kernel
theorem dX6_keep_37 : decode cX6_keep 37 = .ok (.goto (-25), 3) := by decide +kernel
theorem dX6_keep_40 : decode cX6_keep 40 = .ok (.return_, 1) := by decide +kernel
set_option maxRecDepth 20000 in
theorem ggX7_init_X1_init : GoodIn wsX7_init wsX1_init := goodIn_r _ [30, 31, 2, 3, 32, 33, 75, 76] (by decide +kernel) (by decide +kernel)
set_option maxRecDepth 20000 in
theorem gX7_init_X1_init_n9 : GoodIn wsX7_init (wsX1_init) := ggX7_init_X1_init
set_option maxRecDepth 20000 in
theorem ggX7_init_X2_init : GoodIn wsX7_init wsX2_init := goodIn_r _ [35, 36, 2, 3, 32, 37, 38, 39, 86, 87, 88, 89] (by decide +kernel) (by decide +kernel)
set_option maxRecDepth 20000 in
theorem gX7_init_X2_init_n18 : GoodIn wsX7_init (wsX2_init) := ggX7_init_X2_init
set_option maxRecDepth 20000 in
theorem ggX7_init_X4_init : GoodIn wsX7_init wsX4_init := goodIn_r _ [42, 43, 2, 3, 32, 44, 45, 46, 47, 48, 49, 50, 51, 52, 53, 54, 55, 56, 57, 58, 90, 91, 92, 93, 94, 95, 96, 97, 111, 112, 113, 114] (by decide +kernel) (by decide +kernel)
set_option maxRecDepth 20000 in
theorem gX7_init_X4_init : GoodIn wsX7_init (wsX4_init) := ggX7_init_X4_init
set_option maxRecDepth 20000 in
theorem ggX7_init_X0_init : GoodIn wsX7_init wsX0_init := goodIn_r _ [60, 61, 2, 3, 32, 62, 63, 64, 98, 99, 100, 101] (by decide +kernel) (by decide +kernel)
set_option maxRecDepth 20000 in
theorem gX7_init_X0_init_n35 : GoodIn wsX7_init (wsX0_init) := ggX7_init_X0_init
set_option maxRecDepth 20000 in
theorem ggX7_init_X6_init : GoodIn wsX7_init wsX6_init := goodIn_r _ [66, 67, 2, 3, 32, 68, 69, 70, 102, 103, 104, 105, 106] (by decide +kernel) (by decide +kernel)
set_option maxRecDepth 20000 in
theorem gX7_init_X6_init_n42 : GoodIn wsX7_init (wsX6_init) := ggX7_init_X6_init
set_option maxRecDepth 20000 in
theorem ggX7_init_X5_init : GoodIn wsX7_init wsX5_init := goodIn_r _ [72, 73, 2, 3, 32, 74, 107, 108, 109, 110] (by decide +kernel) (by decide +kernel)
set_option maxRecDepth 20000 in
theorem gX7_init_X5_init_n49 : GoodIn wsX7_init (wsX5_init) := ggX7_init_X5_init
theorem dX7_init_0 : decode cX7_init 0 = .ok (.aload_n 0, 1) := by decide +kernel
theorem dX7_init_1 : decode cX7_init 1 = .ok (.invokespecial 1, 3) := by decide +kernel
theorem dX7_init_4 : decode cX7_init 4 = .ok (.aload_n 0, 1) := by decide +kernel
theorem dX7_init_5 : decode cX7_init 5 = .ok (.new 7, 3) := by decide +kernel
theorem dX7_init_8 : decode cX7_init 8 = .ok (.dup, 1) := by decide +kernel
theorem dX7_init_9 : decode cX7_init 9 = .ok (.invokespecial 9, 3) := by decide +kernel
theorem dX7_init_12 : decode cX7_init 12 = .ok (.putfield 10, 3) := by decide +kernel
theorem dX7_init_15 : decode cX7_init 15 = .ok (.aload_n 0, 1) := by decide +kernel
theorem dX7_init_16 : decode cX7_init 16 = .ok (.new 16, 3) := by decide +kernel
theorem dX7_init_19 : decode cX7_init 19 = .ok (.dup, 1) := by decide +kernel
theorem dX7_init_20 : decode cX7_init 20 = .ok (.invokespecial 18, 3) := by decide +kernel
theorem dX7_init_23 : decode cX7_init 23 = .ok (.putfield 19, 3) := by decide +kernel
theorem dX7_init_26 : decode cX7_init 26 = .ok (.aload_n 0, 1) := by decide +kernel
theorem dX7_init_27 : decode cX7_init 27 = .ok (.new 23, 3) := by decide +kernel
theorem dX7_init_30 : decode cX7_init 30 = .ok (.dup, 1) := by decide +kernel
theorem dX7_init_31 : decode cX7_init 31 = .ok (.invokespecial 25, 3) := by decide +kernel
theorem dX7_init_34 : decode cX7_init 34 = .ok (.putfield 26, 3) := by decide +kernel
theorem dX7_init_37 : decode cX7_init 37 = .ok (.aload_n 0, 1) := by decide +kernel
theorem dX7_init_38 : decode cX7_init 38 = .ok (.new 23, 3) := by decide +kernel
theorem dX7_init_41 : decode cX7_init 41 = .ok (.dup, 1) := by decide +kernel
theorem dX7_init_42 : decode cX7_init 42 = .ok (.invokespecial 25, 3) := by decide +kernel
theorem dX7_init_45 : decode cX7_init 45 = .ok (.putfield 30, 3) := by decide +kernel
theorem dX7_init_48 : decode cX7_init 48 = .ok (.aload_n 0, 1) := by decide +kernel
theorem dX7_init_49 : decode cX7_init 49 = .ok (.new 33, 3) := by decide +kernel
theorem dX7_init_52 : decode cX7_init 52 = .ok (.dup, 1) := by decide +kernel
theorem dX7_init_53 : decode cX7_init 53 = .ok (.invokespecial 35, 3) := by decide +kernel
theorem dX7_init_56 : decode cX7_init 56 = .ok (.putfield 36, 3) := by decide +kernel
theorem dX7_init_59 : decode cX7_init 59 = .ok (.aload_n 0, 1) := by decide +kernel
theorem dX7_init_60 : decode cX7_init 60 = .ok (.new 40, 3) := by decide +kernel
theorem dX7_init_63 : decode cX7_init 63 = .ok (.dup, 1) := by decide +kernel
theorem dX7_init_64 : decode cX7_init 64 = .ok (.invokespecial 42, 3) := by decide +kernel
theorem dX7_init_67 : decode cX7_init 67 = .ok (.putfield 43, 3) := by decide +kernel
theorem dX7_init_70 : decode cX7_init 70 = .ok (.aload_n 0, 1) := by decide +kernel
theorem dX7_init_71 : decode cX7_init 71 = .ok (.new 47, 3) := by decide +kernel
theorem dX7_init_74 : decode cX7_init 74 = .ok (.dup, 1) := by decide +kernel
theorem dX7_init_75 : decode cX7_init 75 = .ok (.invokespecial 49, 3) := by decide +kernel
theorem dX7_init_78 : decode cX7_init 78 = .ok (.putfield 50, 3) := by decide +kernel
theorem dX7_init_81 : decode cX7_init 81 = .ok (.return_, 1) := by decide +kernel
set_option maxRecDepth 20000 in
theorem ggX7_letter_X1_add : GoodIn wsX7_letter wsX1_add := goodIn_r _ [7, 8, 9, 19, 20] (by decide +kernel) (by decide +kernel)
set_option maxRecDepth 20000 in
theorem gX7_letter_X1_add : GoodIn wsX7_letter (wsV RX7 58 RX1 yX1_add wsX1_add) := goodIn_app (goodIn_of _ (by decide +kernel)) ggX7_letter_X1_add
theorem dX7_letter_0 : decode cX7_letter 0 = .ok (.iload_n 1, 1) := by decide +kernel
theorem dX7_letter_1 : decode cX7_letter 1 = .ok (.bipush 32, 2) := by decide +kernel
end
section
theorem dX7_letter_3 : decode cX7_letter 3 = .ok (.if_icmp .lt 9, 3) := by decide +kernel
theorem dX7_letter_6 : decode cX7_letter 6 = .ok (.iload_n 1, 1) := by decide +kernel
theorem dX7_letter_7 : decode cX7_letter 7 = .ok (.bipush 126, 2) := by decide +kernel
theorem dX7_letter_9 : decode cX7_letter 9 = .ok (.if_icmp .le 6, 3) := by decide +kernel
theorem dX7_letter_12 : decode cX7_letter 12 = .ok (.bipush (-102), 2) := by decide +kernel
theorem dX7_letter_14 : decode cX7_letter 14 = .ok (.ireturn, 1) := by decide +kernel
theorem dX7_letter_15 : decode cX7_letter 15 = .ok (.aload_n 0, 1) := by decide +kernel
theorem dX7_letter_16 : decode cX7_letter 16 = .ok (.getfield 10, 3) := by decide +kernel
theorem dX7_letter_19 : decode cX7_letter 19 = .ok (.getfield 54, 3) := by decide +kernel
theorem dX7_letter_22 : decode cX7_letter 22 = .ok (.bipush 24, 2) := by decide +kernel
theorem dX7_letter_24 : decode cX7_letter 24 = .ok (.if_icmp .lt 6, 3) := by decide +kernel
theorem dX7_letter_27 : decode cX7_letter 27 = .ok (.bipush (-104), 2) := by decide +kernel
theorem dX7_letter_29 : decode cX7_letter 29 = .ok (.ireturn, 1) := by decide +kernel
theorem dX7_letter_30 : decode cX7_letter 30 = .ok (.aload_n 0, 1) := by decide +kernel
theorem dX7_letter_31 : decode cX7_letter 31 = .ok (.getfield 10, 3) := by decide +kernel
theorem dX7_letter_34 : decode cX7_letter 34 = .ok (.iload_n 1, 1) := by decide +kernel
theorem dX7_letter_35 : decode cX7_letter 35 = .ok (.invokevirtual 58, 3) := by decide +kernel
theorem dX7_letter_38 : decode cX7_letter 38 = .ok (.aload_n 0, 1) := by decide +kernel
theorem dX7_letter_39 : decode cX7_letter 39 = .ok (.getfield 10, 3) := by decide +kernel
theorem dX7_letter_42 : decode cX7_letter 42 = .ok (.getfield 54, 3) := by decide +kernel
theorem dX7_letter_45 : decode cX7_letter 45 = .ok (.ireturn, 1) := by decide +kernel
theorem dX7_blank_0 : decode cX7_blank 0 = .ok (.aload_n 0, 1) := by decide +kernel
theorem dX7_blank_1 : decode cX7_blank 1 = .ok (.getfield 10, 3) := by decide +kernel
theorem dX7_blank_4 : decode cX7_blank 4 = .ok (.getfield 54, 3) := by decide +kernel
theorem dX7_blank_7 : decode cX7_blank 7 = .ok (.istore_n 1, 1) := by decide +kernel
theorem dX7_blank_8 : decode cX7_blank 8 = .ok (.aload_n 0, 1) := by decide +kernel
theorem dX7_blank_9 : decode cX7_blank 9 = .ok (.getfield 10, 3) := by decide +kernel
theorem dX7_blank_12 : decode cX7_blank 12 = .ok (.iconst 0, 1) := by decide +kernel
theorem dX7_blank_13 : decode cX7_blank 13 = .ok (.putfield 54, 3) := by decide +kernel
theorem dX7_blank_16 : decode cX7_blank 16 = .ok (.iload_n 1, 1) := by decide +kernel
theorem dX7_blank_17 : decode cX7_blank 17 = .ok (.ireturn, 1) := by decide +kernel
set_option maxRecDepth 20000 in
theorem ggX7_fault_X1_firstWrong : GoodIn wsX7_fault wsX1_firstWrong := goodIn_r _ [6, 7, 8, 9, 10, 5, 11, 12, 13, 14, 15, 25, 26] (by decide +kernel) (by decide +kernel)
set_option maxRecDepth 20000 in
theorem gX7_fault_X1_firstWrong : GoodIn wsX7_fault (wsV RX7 62 RX1 yX1_firstWrong wsX1_firstWrong) := goodIn_app (goodIn_of _ (by decide +kernel)) ggX7_fault_X1_firstWrong
theorem dX7_fault_0 : decode cX7_fault 0 = .ok (.aload_n 0, 1) := by decide +kernel
theorem dX7_fault_1 : decode cX7_fault 1 = .ok (.getfield 10, 3) := by decide +kernel
theorem dX7_fault_4 : decode cX7_fault 4 = .ok (.invokevirtual 62, 3) := by decide +kernel
theorem dX7_fault_7 : decode cX7_fault 7 = .ok (.ireturn, 1) := by decide +kernel
set_option maxRecDepth 20000 in
theorem ggX7_floor_X1_isFloor : GoodIn wsX7_floor wsX1_isFloor := goodIn_r _ [15, 16, 17, 18, 19, 14, 20, 21, 22, 23, 24, 25, 26, 27, 28, 29, 30, 31, 32, 123, 124] (by decide +kernel) (by decide +kernel)
set_option maxRecDepth 20000 in
theorem gX7_floor_X1_isFloor : GoodIn wsX7_floor (wsV RX7 66 RX1 yX1_isFloor wsX1_isFloor) := goodIn_app (goodIn_of _ (by decide +kernel)) ggX7_floor_X1_isFloor
set_option maxRecDepth 20000 in
theorem ggX7_floor_X2_read : GoodIn wsX7_floor wsX2_read := goodIn_r _ [37, 38, 39, 40, 41, 42, 43, 44, 45, 46, 18, 19, 14, 20, 16, 21, 22, 23, 24, 25, 47, 48, 49, 50, 130, 131, 132, 133, 123, 124] (by decide +kernel) (by decide +kernel)
set_option maxRecDepth 20000 in
theorem gX7_floor_X2_read : GoodIn wsX7_floor (wsV RX7 70 RX2 yX2_read wsX2_read) := goodIn_app (goodIn_of _ (by decide +kernel)) ggX7_floor_X2_read
set_option maxRecDepth 20000 in
theorem ggX7_floor_X4_start : GoodIn wsX7_floor wsX4_start := goodIn_r _ [55, 56, 57, 58, 59, 60, 61, 62, 134, 135, 136, 137, 138, 139, 140, 141, 142, 143, 144, 145] (by decide +kernel) (by decide +kernel)
set_option maxRecDepth 20000 in
theorem gX7_floor_X4_start : GoodIn wsX7_floor (wsV RX7 74 RX4 yX4_start wsX4_start) := goodIn_app (goodIn_of _ (by decide +kernel)) ggX7_floor_X4_start
set_option maxRecDepth 20000 in
theorem ggX7_floor_X0_seek : GoodIn wsX7_floor wsX0_seek := goodIn_r _ [67, 68, 69, 70, 71, 39, 40, 41, 72, 73, 74, 75, 76, 77, 78, 79, 80, 81, 82, 83, 84, 85, 86, 87, 88, 89, 90, 91, 92, 93, 94, 95, 96, 97, 66, 98, 99, 100, 101, 102, 103, 104, 105, 106, 107, 108, 109, 110, 111, 112, 36, 113, 42, 45, 130, 131, 132, 133, 146, 147, 148, 149] (by decide +kernel) (by decide +kernel)
set_option maxRecDepth 20000 in
theorem gX7_floor_X0_seek : GoodIn wsX7_floor (wsV RX7 77 RX0 yX0_seek wsX0_seek) := goodIn_app (goodIn_of _ (by decide +kernel)) ggX7_floor_X0_seek
theorem dX7_floor_0 : decode cX7_floor 0 = .ok (.aload_n 0, 1) := by decide +kernel
theorem dX7_floor_1 : decode cX7_floor 1 = .ok (.getfield 10, 3) := by decide +kernel
theorem dX7_floor_4 : decode cX7_floor 4 = .ok (.invokevirtual 66, 3) := by decide +kernel
theorem dX7_floor_7 : decode cX7_floor 7 = .ok (.ifCond .ne 6, 3) := by decide +kernel
theorem dX7_floor_10 : decode cX7_floor 10 = .ok (.bipush (-103), 2) := by decide +kernel
theorem dX7_floor_12 : decode cX7_floor 12 = .ok (.ireturn, 1) := by decide +kernel
theorem dX7_floor_13 : decode cX7_floor 13 = .ok (.aload_n 0, 1) := by decide +kernel
theorem dX7_floor_14 : decode cX7_floor 14 = .ok (.getfield 19, 3) := by decide +kernel
theorem dX7_floor_17 : decode cX7_floor 17 = .ok (.aload_n 0, 1) := by decide +kernel
theorem dX7_floor_18 : decode cX7_floor 18 = .ok (.getfield 10, 3) := by decide +kernel
theorem dX7_floor_21 : decode cX7_floor 21 = .ok (.invokevirtual 70, 3) := by decide +kernel
theorem dX7_floor_24 : decode cX7_floor 24 = .ok (.aload_n 0, 1) := by decide +kernel
theorem dX7_floor_25 : decode cX7_floor 25 = .ok (.getfield 10, 3) := by decide +kernel
theorem dX7_floor_28 : decode cX7_floor 28 = .ok (.iconst 0, 1) := by decide +kernel
theorem dX7_floor_29 : decode cX7_floor 29 = .ok (.putfield 54, 3) := by decide +kernel
theorem dX7_floor_32 : decode cX7_floor 32 = .ok (.aload_n 0, 1) := by decide +kernel
theorem dX7_floor_33 : decode cX7_floor 33 = .ok (.getfield 26, 3) := by decide +kernel
theorem dX7_floor_36 : decode cX7_floor 36 = .ok (.invokevirtual 74, 3) := by decide +kernel
theorem dX7_floor_39 : decode cX7_floor 39 = .ok (.aload_n 0, 1) := by decide +kernel
theorem dX7_floor_40 : decode cX7_floor 40 = .ok (.getfield 36, 3) := by decide +kernel
theorem dX7_floor_43 : decode cX7_floor 43 = .ok (.aload_n 0, 1) := by decide +kernel
theorem dX7_floor_44 : decode cX7_floor 44 = .ok (.getfield 19, 3) := by decide +kernel
theorem dX7_floor_47 : decode cX7_floor 47 = .ok (.invokevirtual 77, 3) := by decide +kernel
theorem dX7_floor_50 : decode cX7_floor 50 = .ok (.aload_n 0, 1) := by decide +kernel
theorem dX7_floor_51 : decode cX7_floor 51 = .ok (.getfield 43, 3) := by decide +kernel
theorem dX7_floor_54 : decode cX7_floor 54 = .ok (.iconst 0, 1) := by decide +kernel
theorem dX7_floor_55 : decode cX7_floor 55 = .ok (.putfield 81, 3) := by decide +kernel
theorem dX7_floor_58 : decode cX7_floor 58 = .ok (.aload_n 0, 1) := by decide +kernel
theorem dX7_floor_59 : decode cX7_floor 59 = .ok (.iconst 0, 1) := by decide +kernel
theorem dX7_floor_60 : decode cX7_floor 60 = .ok (.putfield 85, 3) := by decide +kernel
theorem dX7_floor_63 : decode cX7_floor 63 = .ok (.aload_n 0, 1) := by decide +kernel
theorem dX7_floor_64 : decode cX7_floor 64 = .ok (.dup, 1) := by decide +kernel
theorem dX7_floor_65 : decode cX7_floor 65 = .ok (.getfield 88, 3) := by decide +kernel
theorem dX7_floor_68 : decode cX7_floor 68 = .ok (.iconst 1, 1) := by decide +kernel
theorem dX7_floor_69 : decode cX7_floor 69 = .ok (.iadd, 1) := by decide +kernel
theorem dX7_floor_70 : decode cX7_floor 70 = .ok (.putfield 88, 3) := by decide +kernel
theorem dX7_floor_73 : decode cX7_floor 73 = .ok (.aload_n 0, 1) := by decide +kernel
theorem dX7_floor_74 : decode cX7_floor 74 = .ok (.getfield 19, 3) := by decide +kernel
theorem dX7_floor_77 : decode cX7_floor 77 = .ok (.getfield 91, 3) := by decide +kernel
theorem dX7_floor_80 : decode cX7_floor 80 = .ok (.ireturn, 1) := by decide +kernel
set_option maxRecDepth 20000 in
theorem ggX7_hook_X7_isKnown : GoodIn wsX7_hook wsX7_isKnown := goodIn_r _ [12, 4, 13, 33, 34, 35, 36, 37, 38, 39, 40, 41, 50, 51, 52, 53] (by decide +kernel) (by decide +kernel)
set_option maxRecDepth 20000 in
theorem gX7_hook_X7_isKnown : GoodIn wsX7_hook (wsV RX7 94 RX7 yX7_isKnown wsX7_isKnown) := goodIn_app (goodIn_of _ (by decide +kernel)) ggX7_hook_X7_isKnown
set_option maxRecDepth 20000 in
theorem ggX7_hook_X3_notFor : GoodIn wsX7_hook wsX3_notFor := goodIn_r _ [18, 19, 20, 54, 55, 56, 57] (by decide +kernel) (by decide +kernel)
set_option maxRecDepth 20000 in
theorem gX7_hook_X3_notFor : GoodIn wsX7_hook (wsV RX7 115 RX3 yX3_notFor wsX3_notFor) := goodIn_app (goodIn_of _ (by decide +kernel)) ggX7_hook_X3_notFor
set_option maxRecDepth 20000 in
theorem ggX7_hook_X3_ofKind : GoodIn wsX7_hook wsX3_ofKind := goodIn_r _ [24, 19, 25, 54, 55, 56, 57] (by decide +kernel) (by decide +kernel)
set_option maxRecDepth 20000 in
theorem gX7_hook_X3_ofKind : GoodIn wsX7_hook (wsV RX7 119 RX3 yX3_ofKind wsX3_ofKind) := goodIn_app (goodIn_of _ (by decide +kernel)) ggX7_hook_X3_ofKind
set_option maxRecDepth 20000 in
theorem ggX7_hook_X2_oftenOf : GoodIn wsX7_hook wsX2_oftenOf := goodIn_r _ [30, 31, 32, 50, 51, 52, 53] (by decide +kernel) (by decide +kernel)
set_option maxRecDepth 20000 in
theorem gX7_hook_X2_oftenOf : GoodIn wsX7_hook (wsV RX7 122 RX2 yX2_oftenOf wsX2_oftenOf) := goodIn_app (goodIn_of _ (by decide +kernel)) ggX7_hook_X2_oftenOf
theorem dX7_hook_0 : decode cX7_hook 0 = .ok (.aload_n 0, 1) := by decide +kernel
theorem dX7_hook_1 : decode cX7_hook 1 = .ok (.iload_n 1, 1) := by decide +kernel
theorem dX7_hook_2 : decode cX7_hook 2 = .ok (.invokevirtual 94, 3) := by decide +kernel
theorem dX7_hook_5 : decode cX7_hook 5 = .ok (.ifCond .ne 6, 3) := by decide +kernel
theorem dX7_hook_8 : decode cX7_hook 8 = .ok (.bipush (-101), 2) := by decide +kernel
theorem dX7_hook_10 : decode cX7_hook 10 = .ok (.ireturn, 1) := by decide +kernel
theorem dX7_hook_11 : decode cX7_hook 11 = .ok (.aload_n 0, 1) := by decide +kernel
theorem dX7_hook_12 : decode cX7_hook 12 = .ok (.getfield 26, 3) := by decide +kernel
theorem dX7_hook_15 : decode cX7_hook 15 = .ok (.getfield 98, 3) := by decide +kernel
theorem dX7_hook_18 : decode cX7_hook 18 = .ok (.iload_n 1, 1) := by decide +kernel
theorem dX7_hook_19 : decode cX7_hook 19 = .ok (.aaload, 1) := by decide +kernel
theorem dX7_hook_20 : decode cX7_hook 20 = .ok (.astore_n 3, 1) := by decide +kernel
theorem dX7_hook_21 : decode cX7_hook 21 = .ok (.aload_n 0, 1) := by decide +kernel
theorem dX7_hook_22 : decode cX7_hook 22 = .ok (.getfield 26, 3) := by decide +kernel
theorem dX7_hook_25 : decode cX7_hook 25 = .ok (.getfield 102, 3) := by decide +kernel
theorem dX7_hook_28 : decode cX7_hook 28 = .ok (.iload_n 1, 1) := by decide +kernel
theorem dX7_hook_29 : decode cX7_hook 29 = .ok (.iaload, 1) := by decide +kernel
theorem dX7_hook_30 : decode cX7_hook 30 = .ok (.istore 4, 2) := by decide +kernel
theorem dX7_hook_32 : decode cX7_hook 32 = .ok (.iload_n 2, 1) := by decide +kernel
theorem dX7_hook_33 : decode cX7_hook 33 = .ok (.tableswitch 94 0 6 #[43, 53, 63, 66, 71, 78, 84], 43) := by decide +kernel
theorem dX7_hook_76 : decode cX7_hook 76 = .ok (.aload_n 0, 1) := by decide +kernel
theorem dX7_hook_77 : decode cX7_hook 77 = .ok (.getfield 19, 3) := by decide +kernel
theorem dX7_hook_80 : decode cX7_hook 80 = .ok (.getfield 106, 3) := by decide +kernel
theorem dX7_hook_83 : decode cX7_hook 83 = .ok (.iload_n 1, 1) := by decide +kernel
theorem dX7_hook_84 : decode cX7_hook 84 = .ok (.iaload, 1) := by decide +kernel
theorem dX7_hook_85 : decode cX7_hook 85 = .ok (.ireturn, 1) := by decide +kernel
theorem dX7_hook_86 : decode cX7_hook 86 = .ok (.aload_n 0, 1) := by decide +kernel
theorem dX7_hook_87 : decode cX7_hook 87 = .ok (.getfield 19, 3) := by decide +kernel
theorem dX7_hook_90 : decode cX7_hook 90 = .ok (.getfield 109, 3) := by decide +kernel
theorem dX7_hook_93 : decode cX7_hook 93 = .ok (.iload_n 1, 1) := by decide +kernel
theorem dX7_hook_94 : decode cX7_hook 94 = .ok (.iaload, 1) := by decide +kernel
theorem dX7_hook_95 : decode cX7_hook 95 = .ok (.ireturn, 1) := by decide +kernel
theorem dX7_hook_96 : decode cX7_hook 96 = .ok (.iload 4, 2) := by decide +kernel
theorem dX7_hook_98 : decode cX7_hook 98 = .ok (.ireturn, 1) := by decide +kernel
theorem dX7_hook_99 : decode cX7_hook 99 = .ok (.aload_n 3, 1) := by decide +kernel
theorem dX7_hook_100 : decode cX7_hook 100 = .ok (.getfield 112, 3) := by decide +kernel
theorem dX7_hook_103 : decode cX7_hook 103 = .ok (.ireturn, 1) := by decide +kernel
theorem dX7_hook_104 : decode cX7_hook 104 = .ok (.aload_n 3, 1) := by decide +kernel
theorem dX7_hook_105 : decode cX7_hook 105 = .ok (.iload 4, 2) := by decide +kernel
theorem dX7_hook_107 : decode cX7_hook 107 = .ok (.invokevirtual 115, 3) := by decide +kernel
theorem dX7_hook_110 : decode cX7_hook 110 = .ok (.ireturn, 1) := by decide +kernel
theorem dX7_hook_111 : decode cX7_hook 111 = .ok (.aload_n 3, 1) := by decide +kernel
theorem dX7_hook_112 : decode cX7_hook 112 = .ok (.iconst 3, 1) := by decide +kernel
theorem dX7_hook_113 : decode cX7_hook 113 = .ok (.invokevirtual 119, 3) := by decide +kernel
theorem dX7_hook_116 : decode cX7_hook 116 = .ok (.ireturn, 1) := by decide +kernel
theorem dX7_hook_117 : decode cX7_hook 117 = .ok (.aload_n 0, 1) := by decide +kernel
theorem dX7_hook_118 : decode cX7_hook 118 = .ok (.getfield 19, 3) := by decide +kernel
theorem dX7_hook_121 : decode cX7_hook 121 = .ok (.iload 4, 2) := by decide +kernel
theorem dX7_hook_123 : decode cX7_hook 123 = .ok (.invokevirtual 122, 3) := by decide +kernel
theorem dX7_hook_126 : decode cX7_hook 126 = .ok (.ireturn, 1) := by decide +kernel
theorem dX7_hook_127 : decode cX7_hook 127 = .ok (.bipush (-102), 2) := by decide +kernel
theorem dX7_hook_129 : decode cX7_hook 129 = .ok (.ireturn, 1) := by decide +kernel
set_option maxRecDepth 20000 in
theorem ggX7_parcel_X7_isKind : GoodIn wsX7_parcel wsX7_isKind := goodIn_r _ [7, 8] (by decide +kernel) (by decide +kernel)
set_option maxRecDepth 20000 in
theorem gX7_parcel_X7_isKind : GoodIn wsX7_parcel (va_wsS RX7 125 yX7_isKind wsX7_isKind) := goodIn_app (goodIn_of _ (by decide +kernel)) ggX7_parcel_X7_isKind
set_option maxRecDepth 20000 in
theorem ggX7_parcel_X7_isKnown : GoodIn wsX7_parcel wsX7_isKnown := goodIn_r _ [12, 13, 14, 24, 25, 26, 27, 28, 29, 30, 31, 32, 45, 46, 47, 48] (by decide +kernel) (by decide +kernel)
set_option maxRecDepth 20000 in
theorem gX7_parcel_X7_isKnown : GoodIn wsX7_parcel (wsV RX7 94 RX7 yX7_isKnown wsX7_isKnown) := goodIn_app (goodIn_of _ (by decide +kernel)) ggX7_parcel_X7_isKnown
set_option maxRecDepth 20000 in
theorem ggX7_parcel_X3_add : GoodIn wsX7_parcel wsX3_add := goodIn_r _ [19, 20, 21, 22, 23, 41, 42, 43, 44] (by decide +kernel) (by decide +kernel)
set_option maxRecDepth 20000 in
theorem gX7_parcel_X3_add : GoodIn wsX7_parcel (wsV RX7 132 RX3 yX3_add wsX3_add) := goodIn_app (goodIn_of _ (by decide +kernel)) ggX7_parcel_X3_add
theorem dX7_parcel_0 : decode cX7_parcel 0 = .ok (.iload_n 1, 1) := by decide +kernel
theorem dX7_parcel_1 : decode cX7_parcel 1 = .ok (.invokestatic 125, 3) := by decide +kernel
theorem dX7_parcel_4 : decode cX7_parcel 4 = .ok (.ifCond .ne 6, 3) := by decide +kernel
theorem dX7_parcel_7 : decode cX7_parcel 7 = .ok (.bipush (-102), 2) := by decide +kernel
theorem dX7_parcel_9 : decode cX7_parcel 9 = .ok (.ireturn, 1) := by decide +kernel
theorem dX7_parcel_10 : decode cX7_parcel 10 = .ok (.aload_n 0, 1) := by decide +kernel
theorem dX7_parcel_11 : decode cX7_parcel 11 = .ok (.iload_n 2, 1) := by decide +kernel
theorem dX7_parcel_12 : decode cX7_parcel 12 = .ok (.invokevirtual 94, 3) := by decide +kernel
theorem dX7_parcel_15 : decode cX7_parcel 15 = .ok (.ifCond .ne 6, 3) := by decide +kernel
theorem dX7_parcel_18 : decode cX7_parcel 18 = .ok (.bipush (-101), 2) := by decide +kernel
theorem dX7_parcel_20 : decode cX7_parcel 20 = .ok (.ireturn, 1) := by decide +kernel
theorem dX7_parcel_21 : decode cX7_parcel 21 = .ok (.aload_n 0, 1) := by decide +kernel
theorem dX7_parcel_22 : decode cX7_parcel 22 = .ok (.getfield 26, 3) := by decide +kernel
theorem dX7_parcel_25 : decode cX7_parcel 25 = .ok (.getfield 128, 3) := by decide +kernel
theorem dX7_parcel_28 : decode cX7_parcel 28 = .ok (.getfield 112, 3) := by decide +kernel
theorem dX7_parcel_31 : decode cX7_parcel 31 = .ok (.bipush 8, 2) := by decide +kernel
theorem dX7_parcel_33 : decode cX7_parcel 33 = .ok (.if_icmp .lt 6, 3) := by decide +kernel
theorem dX7_parcel_36 : decode cX7_parcel 36 = .ok (.bipush (-104), 2) := by decide +kernel
theorem dX7_parcel_38 : decode cX7_parcel 38 = .ok (.ireturn, 1) := by decide +kernel
theorem dX7_parcel_39 : decode cX7_parcel 39 = .ok (.aload_n 0, 1) := by decide +kernel
theorem dX7_parcel_40 : decode cX7_parcel 40 = .ok (.getfield 26, 3) := by decide +kernel
theorem dX7_parcel_43 : decode cX7_parcel 43 = .ok (.getfield 128, 3) := by decide +kernel
theorem dX7_parcel_46 : decode cX7_parcel 46 = .ok (.iload_n 1, 1) := by decide +kernel
theorem dX7_parcel_47 : decode cX7_parcel 47 = .ok (.iload_n 2, 1) := by decide +kernel
theorem dX7_parcel_48 : decode cX7_parcel 48 = .ok (.iconst 0, 1) := by decide +kernel
theorem dX7_parcel_49 : decode cX7_parcel 49 = .ok (.invokevirtual 132, 3) := by decide +kernel
theorem dX7_parcel_52 : decode cX7_parcel 52 = .ok (.aload_n 0, 1) := by decide +kernel
theorem dX7_parcel_53 : decode cX7_parcel 53 = .ok (.getfield 26, 3) := by decide +kernel
theorem dX7_parcel_56 : decode cX7_parcel 56 = .ok (.getfield 128, 3) := by decide +kernel
theorem dX7_parcel_59 : decode cX7_parcel 59 = .ok (.getfield 112, 3) := by decide +kernel
theorem dX7_parcel_62 : decode cX7_parcel 62 = .ok (.ireturn, 1) := by decide +kernel
set_option maxRecDepth 20000 in
theorem ggX7_belt_X3_kindAt : GoodIn wsX7_belt wsX3_kindAt := goodIn_r _ [8, 9, 10, 38, 39, 40, 41] (by decide +kernel) (by decide +kernel)
set_option maxRecDepth 20000 in
theorem gX7_belt_X3_kindAt : GoodIn wsX7_belt (wsV RX7 135 RX3 yX3_kindAt wsX3_kindAt) := goodIn_app (goodIn_of _ (by decide +kernel)) ggX7_belt_X3_kindAt
set_option maxRecDepth 20000 in
theorem ggX7_belt_X3_townAt : GoodIn wsX7_belt wsX3_townAt := goodIn_r _ [14, 9, 15, 38, 39, 40, 41] (by decide +kernel) (by decide +kernel)
set_option maxRecDepth 20000 in
theorem gX7_belt_X3_townAt : GoodIn wsX7_belt (wsV RX7 138 RX3 yX3_townAt wsX3_townAt) := goodIn_app (goodIn_of _ (by decide +kernel)) ggX7_belt_X3_townAt
set_option maxRecDepth 20000 in
theorem ggX7_belt_X7_gripOf : GoodIn wsX7_belt wsX7_gripOf := goodIn_r _ [19, 20] (by decide +kernel) (by decide +kernel)
set_option maxRecDepth 20000 in
theorem gX7_belt_X7_gripOf : GoodIn wsX7_belt (va_wsS RX7 141 yX7_gripOf wsX7_gripOf) := goodIn_app (goodIn_of _ (by decide +kernel)) ggX7_belt_X7_gripOf
theorem dX7_belt_0 : decode cX7_belt 0 = .ok (.iload_n 1, 1) := by decide +kernel
theorem dX7_belt_1 : decode cX7_belt 1 = .ok (.ifCond .lt 17, 3) := by decide +kernel
theorem dX7_belt_4 : decode cX7_belt 4 = .ok (.iload_n 1, 1) := by decide +kernel
theorem dX7_belt_5 : decode cX7_belt 5 = .ok (.aload_n 0, 1) := by decide +kernel
theorem dX7_belt_6 : decode cX7_belt 6 = .ok (.getfield 26, 3) := by decide +kernel
theorem dX7_belt_9 : decode cX7_belt 9 = .ok (.getfield 128, 3) := by decide +kernel
theorem dX7_belt_12 : decode cX7_belt 12 = .ok (.getfield 112, 3) := by decide +kernel
theorem dX7_belt_15 : decode cX7_belt 15 = .ok (.if_icmp .lt 6, 3) := by decide +kernel
theorem dX7_belt_18 : decode cX7_belt 18 = .ok (.bipush (-101), 2) := by decide +kernel
theorem dX7_belt_20 : decode cX7_belt 20 = .ok (.ireturn, 1) := by decide +kernel
theorem dX7_belt_21 : decode cX7_belt 21 = .ok (.iload_n 2, 1) := by decide +kernel
theorem dX7_belt_22 : decode cX7_belt 22 = .ok (.tableswitch 65 0 2 #[26, 38, 50], 26) := by decide +kernel
theorem dX7_belt_48 : decode cX7_belt 48 = .ok (.aload_n 0, 1) := by decide +kernel
theorem dX7_belt_49 : decode cX7_belt 49 = .ok (.getfield 26, 3) := by decide +kernel
theorem dX7_belt_52 : decode cX7_belt 52 = .ok (.getfield 128, 3) := by decide +kernel
theorem dX7_belt_55 : decode cX7_belt 55 = .ok (.iload_n 1, 1) := by decide +kernel
theorem dX7_belt_56 : decode cX7_belt 56 = .ok (.invokevirtual 135, 3) := by decide +kernel
theorem dX7_belt_59 : decode cX7_belt 59 = .ok (.ireturn, 1) := by decide +kernel
theorem dX7_belt_60 : decode cX7_belt 60 = .ok (.aload_n 0, 1) := by decide +kernel
theorem dX7_belt_61 : decode cX7_belt 61 = .ok (.getfield 26, 3) := by decide +kernel
theorem dX7_belt_64 : decode cX7_belt 64 = .ok (.getfield 128, 3) := by decide +kernel
theorem dX7_belt_67 : decode cX7_belt 67 = .ok (.iload_n 1, 1) := by decide +kernel
theorem dX7_belt_68 : decode cX7_belt 68 = .ok (.invokevirtual 138, 3) := by decide +kernel
theorem dX7_belt_71 : decode cX7_belt 71 = .ok (.ireturn, 1) := by decide +kernel
theorem dX7_belt_72 : decode cX7_belt 72 = .ok (.aload_n 0, 1) := by decide +kernel
theorem dX7_belt_73 : decode cX7_belt 73 = .ok (.getfield 26, 3) := by decide +kernel
theorem dX7_belt_76 : decode cX7_belt 76 = .ok (.getfield 128, 3) := by decide +kernel
theorem dX7_belt_79 : decode cX7_belt 79 = .ok (.iload_n 1, 1) := by decide +kernel
theorem dX7_belt_80 : decode cX7_belt 80 = .ok (.invokevirtual 135, 3) := by decide +kernel
theorem dX7_belt_83 : decode cX7_belt 83 = .ok (.invokestatic 141, 3) := by decide +kernel
theorem dX7_belt_86 : decode cX7_belt 86 = .ok (.ireturn, 1) := by decide +kernel
theorem dX7_belt_87 : decode cX7_belt 87 = .ok (.bipush (-102), 2) := by decide +kernel
theorem dX7_belt_89 : decode cX7_belt 89 = .ok (.ireturn, 1) := by decide +kernel
set_option maxRecDepth 20000 in
theorem ggX7_as_X7_isKind : GoodIn wsX7_as wsX7_isKind := goodIn_r _ [7, 8] (by decide +kernel) (by decide +kernel)
set_option maxRecDepth 20000 in
theorem gX7_as_X7_isKind : GoodIn wsX7_as (va_wsS RX7 125 yX7_isKind wsX7_isKind) := goodIn_app (goodIn_of _ (by decide +kernel)) ggX7_as_X7_isKind
set_option maxRecDepth 20000 in
theorem ggX7_as_X3_kindAt : GoodIn wsX7_as wsX3_kindAt := goodIn_r _ [13, 14, 15, 41, 42, 43, 44] (by decide +kernel) (by decide +kernel)
set_option maxRecDepth 20000 in
theorem gX7_as_X3_kindAt : GoodIn wsX7_as (wsV RX7 135 RX3 yX3_kindAt wsX3_kindAt) := goodIn_app (goodIn_of _ (by decide +kernel)) ggX7_as_X3_kindAt
set_option maxRecDepth 20000 in
theorem ggX7_as_X7_isA : GoodIn wsX7_as wsX7_isA := goodIn_r _ [18] (by decide +kernel) (by decide +kernel)
set_option maxRecDepth 20000 in
theorem gX7_as_X7_isA : GoodIn wsX7_as (va_wsS RX7 144 yX7_isA wsX7_isA) := goodIn_app (goodIn_of _ (by decide +kernel)) ggX7_as_X7_isA
set_option maxRecDepth 20000 in
theorem ggX7_as_X3_townAt : GoodIn wsX7_as wsX3_townAt := goodIn_r _ [22, 14, 23, 41, 42, 43, 44] (by decide +kernel) (by decide +kernel)
set_option maxRecDepth 20000 in
theorem gX7_as_X3_townAt : GoodIn wsX7_as (wsV RX7 138 RX3 yX3_townAt wsX3_townAt) := goodIn_app (goodIn_of _ (by decide +kernel)) ggX7_as_X3_townAt
theorem dX7_as_0 : decode cX7_as 0 = .ok (.iload_n 1, 1) := by decide +kernel
theorem dX7_as_1 : decode cX7_as 1 = .ok (.ifCond .lt 17, 3) := by decide +kernel
theorem dX7_as_4 : decode cX7_as 4 = .ok (.iload_n 1, 1) := by decide +kernel
theorem dX7_as_5 : decode cX7_as 5 = .ok (.aload_n 0, 1) := by decide +kernel
theorem dX7_as_6 : decode cX7_as 6 = .ok (.getfield 26, 3) := by decide +kernel
theorem dX7_as_9 : decode cX7_as 9 = .ok (.getfield 128, 3) := by decide +kernel
theorem dX7_as_12 : decode cX7_as 12 = .ok (.getfield 112, 3) := by decide +kernel
theorem dX7_as_15 : decode cX7_as 15 = .ok (.if_icmp .lt 6, 3) := by decide +kernel
theorem dX7_as_18 : decode cX7_as 18 = .ok (.bipush (-101), 2) := by decide +kernel
theorem dX7_as_20 : decode cX7_as 20 = .ok (.ireturn, 1) := by decide +kernel
theorem dX7_as_21 : decode cX7_as 21 = .ok (.iload_n 2, 1) := by decide +kernel
theorem dX7_as_22 : decode cX7_as 22 = .ok (.invokestatic 125, 3) := by decide +kernel
theorem dX7_as_25 : decode cX7_as 25 = .ok (.ifCond .ne 6, 3) := by decide +kernel
theorem dX7_as_28 : decode cX7_as 28 = .ok (.bipush (-102), 2) := by decide +kernel
theorem dX7_as_30 : decode cX7_as 30 = .ok (.ireturn, 1) := by decide +kernel
theorem dX7_as_31 : decode cX7_as 31 = .ok (.aload_n 0, 1) := by decide +kernel
theorem dX7_as_32 : decode cX7_as 32 = .ok (.getfield 26, 3) := by decide +kernel
theorem dX7_as_35 : decode cX7_as 35 = .ok (.getfield 128, 3) := by decide +kernel
theorem dX7_as_38 : decode cX7_as 38 = .ok (.iload_n 1, 1) := by decide +kernel
theorem dX7_as_39 : decode cX7_as 39 = .ok (.invokevirtual 135, 3) := by decide +kernel
theorem dX7_as_42 : decode cX7_as 42 = .ok (.iload_n 2, 1) := by decide +kernel
theorem dX7_as_43 : decode cX7_as 43 = .ok (.invokestatic 144, 3) := by decide +kernel
theorem dX7_as_46 : decode cX7_as 46 = .ok (.ifCond .eq 17, 3) := by decide +kernel
theorem dX7_as_49 : decode cX7_as 49 = .ok (.aload_n 0, 1) := by decide +kernel
theorem dX7_as_50 : decode cX7_as 50 = .ok (.getfield 26, 3) := by decide +kernel
theorem dX7_as_53 : decode cX7_as 53 = .ok (.getfield 128, 3) := by decide +kernel
theorem dX7_as_56 : decode cX7_as 56 = .ok (.iload_n 1, 1) := by decide +kernel
theorem dX7_as_57 : decode cX7_as 57 = .ok (.invokevirtual 138, 3) := by decide +kernel
theorem dX7_as_60 : decode cX7_as 60 = .ok (.goto 4, 3) := by decide +kernel
theorem dX7_as_63 : decode cX7_as 63 = .ok (.iconst (-1), 1) := by decide +kernel
theorem dX7_as_64 : decode cX7_as 64 = .ok (.ireturn, 1) := by decide +kernel
set_option maxRecDepth 20000 in
theorem ggX7_toss_X7_isKnown : GoodIn wsX7_toss wsX7_isKnown := goodIn_r _ [12, 4, 5, 78, 79, 80, 81, 82, 83, 84, 85, 86, 99, 100, 101, 102] (by decide +kernel) (by decide +kernel)
set_option maxRecDepth 20000 in
theorem gX7_toss_X7_isKnown : GoodIn wsX7_toss (wsV RX7 94 RX7 yX7_isKnown wsX7_isKnown) := goodIn_app (goodIn_of _ (by decide +kernel)) ggX7_toss_X7_isKnown
set_option maxRecDepth 20000 in
theorem ggX7_toss_X7_isFull : GoodIn wsX7_toss wsX7_isFull := goodIn_r _ [16, 1, 17, 3, 4, 18, 8, 9, 10, 11, 12, 5, 78, 79, 80, 81, 82, 83, 84, 85, 86, 87, 88, 89, 90, 91, 92, 93, 94, 95, 96, 97, 98, 99, 100, 101, 102] (by decide +kernel) (by decide +kernel)
set_option maxRecDepth 20000 in
theorem gX7_toss_X7_isFull : GoodIn wsX7_toss (wsV RX7 148 RX7 yX7_isFull wsX7_isFull) := goodIn_app (goodIn_of _ (by decide +kernel)) ggX7_toss_X7_isFull
set_option maxRecDepth 20000 in
theorem ggX7_toss_X3_kindAt : GoodIn wsX7_toss wsX3_kindAt := goodIn_r _ [23, 24, 25, 95, 96, 97, 98] (by decide +kernel) (by decide +kernel)
set_option maxRecDepth 20000 in
theorem gX7_toss_X3_kindAt : GoodIn wsX7_toss (wsV RX7 135 RX3 yX3_kindAt wsX3_kindAt) := goodIn_app (goodIn_of _ (by decide +kernel)) ggX7_toss_X3_kindAt
set_option maxRecDepth 20000 in
theorem ggX7_toss_X7_tenthsAt : GoodIn wsX7_toss wsX7_tenthsAt := goodIn_r _ [29, 4, 7, 5, 8, 9, 10, 11, 12, 30, 31, 32, 13, 14, 15, 16, 1, 17, 3, 18, 33, 34, 35, 36, 37, 38, 39, 40, 41, 42, 43, 44, 45, 46, 78, 79, 80, 81, 82, 83, 84, 85, 86, 99, 100, 101, 102, 87, 88, 89, 90, 91, 92, 93, 94, 95, 96, 97, 98] (by decide +kernel) (by decide +kernel)
set_option maxRecDepth 20000 in
theorem gX7_toss_X7_tenthsAt : GoodIn wsX7_toss (wsV RX7 151 RX7 yX7_tenthsAt wsX7_tenthsAt) := goodIn_app (goodIn_of _ (by decide +kernel)) ggX7_toss_X7_tenthsAt
set_option maxRecDepth 20000 in
theorem ggX7_toss_X7_nextTo : GoodIn wsX7_toss wsX7_nextTo := goodIn_r _ [32] (by decide +kernel) (by decide +kernel)
set_option maxRecDepth 20000 in
theorem gX7_toss_X7_nextTo : GoodIn wsX7_toss (va_wsS RX7 155 yX7_nextTo wsX7_nextTo) := goodIn_app (goodIn_of _ (by decide +kernel)) ggX7_toss_X7_nextTo
set_option maxRecDepth 20000 in
theorem ggX7_toss_X7_carrySeconds : GoodIn wsX7_toss wsX7_carrySeconds := goodIn_r _ [49] (by decide +kernel) (by decide +kernel)
set_option maxRecDepth 20000 in
theorem gX7_toss_X7_carrySeconds : GoodIn wsX7_toss (va_wsS RX7 162 yX7_carrySeconds wsX7_carrySeconds) := goodIn_app (goodIn_of _ (by decide +kernel)) ggX7_toss_X7_carrySeconds
set_option maxRecDepth 20000 in
theorem ggX7_toss_X4_putFirst : GoodIn wsX7_toss wsX4_putFirst := goodIn_r _ [54, 55, 56, 57, 58, 20, 21, 22, 23, 24, 25, 59, 60, 61, 62, 63, 64, 65, 66, 67, 68, 69, 70, 71, 72, 73, 74, 75, 76, 77, 41, 38, 42, 87, 88, 89, 90, 91, 92, 93, 94, 95, 96, 97, 98] (by decide +kernel) (by decide +kernel)
set_option maxRecDepth 20000 in
theorem gX7_toss_X4_putFirst : GoodIn wsX7_toss (wsV RX7 165 RX4 yX4_putFirst wsX4_putFirst) := goodIn_app (goodIn_of _ (by decide +kernel)) ggX7_toss_X4_putFirst
theorem dX7_toss_0 : decode cX7_toss 0 = .ok (.aload_n 0, 1) := by decide +kernel
theorem dX7_toss_1 : decode cX7_toss 1 = .ok (.iload_n 1, 1) := by decide +kernel
theorem dX7_toss_2 : decode cX7_toss 2 = .ok (.invokevirtual 94, 3) := by decide +kernel
theorem dX7_toss_5 : decode cX7_toss 5 = .ok (.ifCond .ne 6, 3) := by decide +kernel
theorem dX7_toss_8 : decode cX7_toss 8 = .ok (.bipush (-101), 2) := by decide +kernel
theorem dX7_toss_10 : decode cX7_toss 10 = .ok (.ireturn, 1) := by decide +kernel
theorem dX7_toss_11 : decode cX7_toss 11 = .ok (.iload_n 2, 1) := by decide +kernel
theorem dX7_toss_12 : decode cX7_toss 12 = .ok (.ifCond .lt 8, 3) := by decide +kernel
theorem dX7_toss_15 : decode cX7_toss 15 = .ok (.iload_n 2, 1) := by decide +kernel
theorem dX7_toss_16 : decode cX7_toss 16 = .ok (.iconst 2, 1) := by decide +kernel
theorem dX7_toss_17 : decode cX7_toss 17 = .ok (.if_icmp .le 6, 3) := by decide +kernel
theorem dX7_toss_20 : decode cX7_toss 20 = .ok (.bipush (-102), 2) := by decide +kernel
theorem dX7_toss_22 : decode cX7_toss 22 = .ok (.ireturn, 1) := by decide +kernel
theorem dX7_toss_23 : decode cX7_toss 23 = .ok (.aload_n 0, 1) := by decide +kernel
theorem dX7_toss_24 : decode cX7_toss 24 = .ok (.getfield 26, 3) := by decide +kernel
theorem dX7_toss_27 : decode cX7_toss 27 = .ok (.getfield 128, 3) := by decide +kernel
theorem dX7_toss_30 : decode cX7_toss 30 = .ok (.getfield 112, 3) := by decide +kernel
theorem dX7_toss_33 : decode cX7_toss 33 = .ok (.ifCond .eq 31, 3) := by decide +kernel
theorem dX7_toss_36 : decode cX7_toss 36 = .ok (.aload_n 0, 1) := by decide +kernel
theorem dX7_toss_37 : decode cX7_toss 37 = .ok (.iload_n 1, 1) := by decide +kernel
theorem dX7_toss_38 : decode cX7_toss 38 = .ok (.invokevirtual 148, 3) := by decide +kernel
theorem dX7_toss_41 : decode cX7_toss 41 = .ok (.ifCond .ne 23, 3) := by decide +kernel
theorem dX7_toss_44 : decode cX7_toss 44 = .ok (.aload_n 0, 1) := by decide +kernel
theorem dX7_toss_45 : decode cX7_toss 45 = .ok (.aload_n 0, 1) := by decide +kernel
theorem dX7_toss_46 : decode cX7_toss 46 = .ok (.getfield 26, 3) := by decide +kernel
theorem dX7_toss_49 : decode cX7_toss 49 = .ok (.getfield 128, 3) := by decide +kernel
theorem dX7_toss_52 : decode cX7_toss 52 = .ok (.iconst 0, 1) := by decide +kernel
theorem dX7_toss_53 : decode cX7_toss 53 = .ok (.invokevirtual 135, 3) := by decide +kernel
theorem dX7_toss_56 : decode cX7_toss 56 = .ok (.iload_n 1, 1) := by decide +kernel
theorem dX7_toss_57 : decode cX7_toss 57 = .ok (.iload_n 2, 1) := by decide +kernel
theorem dX7_toss_58 : decode cX7_toss 58 = .ok (.invokevirtual 151, 3) := by decide +kernel
theorem dX7_toss_61 : decode cX7_toss 61 = .ok (.ifCond .ne 6, 3) := by decide +kernel
theorem dX7_toss_64 : decode cX7_toss 64 = .ok (.bipush (-103), 2) := by decide +kernel
theorem dX7_toss_66 : decode cX7_toss 66 = .ok (.ireturn, 1) := by decide +kernel
theorem dX7_toss_67 : decode cX7_toss 67 = .ok (.iload_n 2, 1) := by decide +kernel
theorem dX7_toss_68 : decode cX7_toss 68 = .ok (.iconst 1, 1) := by decide +kernel
theorem dX7_toss_69 : decode cX7_toss 69 = .ok (.if_icmp .ne 17, 3) := by decide +kernel
theorem dX7_toss_72 : decode cX7_toss 72 = .ok (.iload_n 1, 1) := by decide +kernel
theorem dX7_toss_73 : decode cX7_toss 73 = .ok (.aload_n 0, 1) := by decide +kernel
theorem dX7_toss_74 : decode cX7_toss 74 = .ok (.getfield 19, 3) := by decide +kernel
theorem dX7_toss_77 : decode cX7_toss 77 = .ok (.getfield 91, 3) := by decide +kernel
theorem dX7_toss_80 : decode cX7_toss 80 = .ok (.invokestatic 155, 3) := by decide +kernel
theorem dX7_toss_83 : decode cX7_toss 83 = .ok (.goto 4, 3) := by decide +kernel
theorem dX7_toss_86 : decode cX7_toss 86 = .ok (.iload_n 1, 1) := by decide +kernel
theorem dX7_toss_87 : decode cX7_toss 87 = .ok (.istore_n 3, 1) := by decide +kernel
theorem dX7_toss_88 : decode cX7_toss 88 = .ok (.aload_n 0, 1) := by decide +kernel
theorem dX7_toss_89 : decode cX7_toss 89 = .ok (.getfield 26, 3) := by decide +kernel
theorem dX7_toss_92 : decode cX7_toss 92 = .ok (.dup, 1) := by decide +kernel
theorem dX7_toss_93 : decode cX7_toss 93 = .ok (.getfield 159, 3) := by decide +kernel
theorem dX7_toss_96 : decode cX7_toss 96 = .ok (.iconst 2, 1) := by decide +kernel
theorem dX7_toss_97 : decode cX7_toss 97 = .ok (.iadd, 1) := by decide +kernel
theorem dX7_toss_98 : decode cX7_toss 98 = .ok (.putfield 159, 3) := by decide +kernel
theorem dX7_toss_101 : decode cX7_toss 101 = .ok (.iload_n 2, 1) := by decide +kernel
theorem dX7_toss_102 : decode cX7_toss 102 = .ok (.iconst 2, 1) := by decide +kernel
theorem dX7_toss_103 : decode cX7_toss 103 = .ok (.if_icmp .ne 27, 3) := by decide +kernel
theorem dX7_toss_106 : decode cX7_toss 106 = .ok (.aload_n 0, 1) := by decide +kernel
theorem dX7_toss_107 : decode cX7_toss 107 = .ok (.getfield 26, 3) := by decide +kernel
theorem dX7_toss_110 : decode cX7_toss 110 = .ok (.dup, 1) := by decide +kernel
theorem dX7_toss_111 : decode cX7_toss 111 = .ok (.getfield 159, 3) := by decide +kernel
theorem dX7_toss_114 : decode cX7_toss 114 = .ok (.aload_n 0, 1) := by decide +kernel
theorem dX7_toss_115 : decode cX7_toss 115 = .ok (.getfield 19, 3) := by decide +kernel
theorem dX7_toss_118 : decode cX7_toss 118 = .ok (.getfield 106, 3) := by decide +kernel
theorem dX7_toss_121 : decode cX7_toss 121 = .ok (.iload_n 1, 1) := by decide +kernel
theorem dX7_toss_122 : decode cX7_toss 122 = .ok (.iaload, 1) := by decide +kernel
theorem dX7_toss_123 : decode cX7_toss 123 = .ok (.invokestatic 162, 3) := by decide +kernel
theorem dX7_toss_126 : decode cX7_toss 126 = .ok (.iadd, 1) := by decide +kernel
theorem dX7_toss_127 : decode cX7_toss 127 = .ok (.putfield 159, 3) := by decide +kernel
theorem dX7_toss_130 : decode cX7_toss 130 = .ok (.aload_n 0, 1) := by decide +kernel
theorem dX7_toss_131 : decode cX7_toss 131 = .ok (.getfield 26, 3) := by decide +kernel
theorem dX7_toss_134 : decode cX7_toss 134 = .ok (.iload_n 3, 1) := by decide +kernel
theorem dX7_toss_135 : decode cX7_toss 135 = .ok (.iload_n 2, 1) := by decide +kernel
theorem dX7_toss_136 : decode cX7_toss 136 = .ok (.iconst 2, 1) := by decide +kernel
theorem dX7_toss_137 : decode cX7_toss 137 = .ok (.if_icmp .eq 7, 3) := by decide +kernel
theorem dX7_toss_140 : decode cX7_toss 140 = .ok (.iconst 1, 1) := by decide +kernel
theorem dX7_toss_141 : decode cX7_toss 141 = .ok (.goto 4, 3) := by decide +kernel
theorem dX7_toss_144 : decode cX7_toss 144 = .ok (.iconst 0, 1) := by decide +kernel
theorem dX7_toss_145 : decode cX7_toss 145 = .ok (.invokevirtual 165, 3) := by decide +kernel
theorem dX7_toss_148 : decode cX7_toss 148 = .ok (.iload_n 3, 1) := by decide +kernel
theorem dX7_toss_149 : decode cX7_toss 149 = .ok (.ireturn, 1) := by decide +kernel
set_option maxRecDepth 20000 in
theorem ggX7_carry_X7_isKnown : GoodIn wsX7_carry wsX7_isKnown := goodIn_r _ [11, 5, 12, 59, 60, 61, 62, 63, 64, 65, 66, 67, 80, 81, 82, 83] (by decide +kernel) (by decide +kernel)
set_option maxRecDepth 20000 in
theorem gX7_carry_X7_isKnown : GoodIn wsX7_carry (wsV RX7 94 RX7 yX7_isKnown wsX7_isKnown) := goodIn_app (goodIn_of _ (by decide +kernel)) ggX7_carry_X7_isKnown
set_option maxRecDepth 20000 in
theorem ggX7_carry_X7_isFull : GoodIn wsX7_carry wsX7_isFull := goodIn_r _ [16, 1, 17, 3, 5, 18, 7, 8, 9, 10, 11, 12, 59, 60, 61, 62, 63, 64, 65, 66, 67, 68, 69, 70, 71, 72, 73, 74, 75, 76, 77, 78, 79, 80, 81, 82, 83] (by decide +kernel) (by decide +kernel)
set_option maxRecDepth 20000 in
theorem gX7_carry_X7_isFull : GoodIn wsX7_carry (wsV RX7 148 RX7 yX7_isFull wsX7_isFull) := goodIn_app (goodIn_of _ (by decide +kernel)) ggX7_carry_X7_isFull
set_option maxRecDepth 20000 in
theorem ggX7_carry_X7_carrySeconds : GoodIn wsX7_carry wsX7_carrySeconds := goodIn_r _ [21] (by decide +kernel) (by decide +kernel)
set_option maxRecDepth 20000 in
theorem gX7_carry_X7_carrySeconds : GoodIn wsX7_carry (va_wsS RX7 162 yX7_carrySeconds wsX7_carrySeconds) := goodIn_app (goodIn_of _ (by decide +kernel)) ggX7_carry_X7_carrySeconds
set_option maxRecDepth 20000 in
theorem ggX7_carry_X4_putFirst : GoodIn wsX7_carry wsX4_putFirst := goodIn_r _ [26, 27, 28, 29, 30, 31, 32, 33, 34, 35, 36, 37, 38, 39, 40, 41, 42, 43, 44, 45, 46, 47, 48, 49, 50, 51, 52, 53, 54, 55, 56, 57, 58, 68, 69, 70, 71, 72, 73, 74, 75, 76, 77, 78, 79] (by decide +kernel) (by decide +kernel)
set_option maxRecDepth 20000 in
theorem gX7_carry_X4_putFirst : GoodIn wsX7_carry (wsV RX7 165 RX4 yX4_putFirst wsX4_putFirst) := goodIn_app (goodIn_of _ (by decide +kernel)) ggX7_carry_X4_putFirst
theorem dX7_carry_0 : decode cX7_carry 0 = .ok (.aload_n 0, 1) := by decide +kernel
theorem dX7_carry_1 : decode cX7_carry 1 = .ok (.iload_n 1, 1) := by decide +kernel
theorem dX7_carry_2 : decode cX7_carry 2 = .ok (.invokevirtual 94, 3) := by decide +kernel
theorem dX7_carry_5 : decode cX7_carry 5 = .ok (.ifCond .ne 6, 3) := by decide +kernel
theorem dX7_carry_8 : decode cX7_carry 8 = .ok (.bipush (-101), 2) := by decide +kernel
theorem dX7_carry_10 : decode cX7_carry 10 = .ok (.ireturn, 1) := by decide +kernel
theorem dX7_carry_11 : decode cX7_carry 11 = .ok (.aload_n 0, 1) := by decide +kernel
theorem dX7_carry_12 : decode cX7_carry 12 = .ok (.getfield 26, 3) := by decide +kernel
theorem dX7_carry_15 : decode cX7_carry 15 = .ok (.getfield 128, 3) := by decide +kernel
theorem dX7_carry_18 : decode cX7_carry 18 = .ok (.getfield 112, 3) := by decide +kernel
theorem dX7_carry_21 : decode cX7_carry 21 = .ok (.ifCond .eq 11, 3) := by decide +kernel
theorem dX7_carry_24 : decode cX7_carry 24 = .ok (.aload_n 0, 1) := by decide +kernel
theorem dX7_carry_25 : decode cX7_carry 25 = .ok (.iload_n 1, 1) := by decide +kernel
theorem dX7_carry_26 : decode cX7_carry 26 = .ok (.invokevirtual 148, 3) := by decide +kernel
theorem dX7_carry_29 : decode cX7_carry 29 = .ok (.ifCond .eq 6, 3) := by decide +kernel
theorem dX7_carry_32 : decode cX7_carry 32 = .ok (.bipush (-103), 2) := by decide +kernel
theorem dX7_carry_34 : decode cX7_carry 34 = .ok (.ireturn, 1) := by decide +kernel
theorem dX7_carry_35 : decode cX7_carry 35 = .ok (.aload_n 0, 1) := by decide +kernel
theorem dX7_carry_36 : decode cX7_carry 36 = .ok (.getfield 26, 3) := by decide +kernel
theorem dX7_carry_39 : decode cX7_carry 39 = .ok (.dup, 1) := by decide +kernel
theorem dX7_carry_40 : decode cX7_carry 40 = .ok (.getfield 159, 3) := by decide +kernel
theorem dX7_carry_43 : decode cX7_carry 43 = .ok (.aload_n 0, 1) := by decide +kernel
theorem dX7_carry_44 : decode cX7_carry 44 = .ok (.getfield 19, 3) := by decide +kernel
theorem dX7_carry_47 : decode cX7_carry 47 = .ok (.getfield 106, 3) := by decide +kernel
theorem dX7_carry_50 : decode cX7_carry 50 = .ok (.iload_n 1, 1) := by decide +kernel
theorem dX7_carry_51 : decode cX7_carry 51 = .ok (.iaload, 1) := by decide +kernel
theorem dX7_carry_52 : decode cX7_carry 52 = .ok (.invokestatic 162, 3) := by decide +kernel
theorem dX7_carry_55 : decode cX7_carry 55 = .ok (.iadd, 1) := by decide +kernel
theorem dX7_carry_56 : decode cX7_carry 56 = .ok (.putfield 159, 3) := by decide +kernel
theorem dX7_carry_59 : decode cX7_carry 59 = .ok (.aload_n 0, 1) := by decide +kernel
theorem dX7_carry_60 : decode cX7_carry 60 = .ok (.getfield 26, 3) := by decide +kernel
theorem dX7_carry_63 : decode cX7_carry 63 = .ok (.iload_n 1, 1) := by decide +kernel
theorem dX7_carry_64 : decode cX7_carry 64 = .ok (.iconst 0, 1) := by decide +kernel
theorem dX7_carry_65 : decode cX7_carry 65 = .ok (.invokevirtual 165, 3) := by decide +kernel
theorem dX7_carry_68 : decode cX7_carry 68 = .ok (.aload_n 0, 1) := by decide +kernel
theorem dX7_carry_69 : decode cX7_carry 69 = .ok (.getfield 26, 3) := by decide +kernel
theorem dX7_carry_72 : decode cX7_carry 72 = .ok (.getfield 159, 3) := by decide +kernel
theorem dX7_carry_75 : decode cX7_carry 75 = .ok (.ireturn, 1) := by decide +kernel
set_option maxRecDepth 20000 in
theorem ggX7_change_X7_isKnown : GoodIn wsX7_change wsX7_isKnown := goodIn_r _ [9, 10, 11, 12, 13, 14, 15, 16, 17, 18, 19, 20, 33, 34, 35, 36] (by decide +kernel) (by decide +kernel)
set_option maxRecDepth 20000 in
theorem gX7_change_X7_isKnown : GoodIn wsX7_change (wsV RX7 94 RX7 yX7_isKnown wsX7_isKnown) := goodIn_app (goodIn_of _ (by decide +kernel)) ggX7_change_X7_isKnown
theorem dX7_change_0 : decode cX7_change 0 = .ok (.aload_n 0, 1) := by decide +kernel
theorem dX7_change_1 : decode cX7_change 1 = .ok (.iload_n 1, 1) := by decide +kernel
theorem dX7_change_2 : decode cX7_change 2 = .ok (.invokevirtual 94, 3) := by decide +kernel
theorem dX7_change_5 : decode cX7_change 5 = .ok (.ifCond .ne 6, 3) := by decide +kernel
theorem dX7_change_8 : decode cX7_change 8 = .ok (.bipush (-101), 2) := by decide +kernel
theorem dX7_change_10 : decode cX7_change 10 = .ok (.ireturn, 1) := by decide +kernel
theorem dX7_change_11 : decode cX7_change 11 = .ok (.aload_n 0, 1) := by decide +kernel
theorem dX7_change_12 : decode cX7_change 12 = .ok (.getfield 26, 3) := by decide +kernel
theorem dX7_change_15 : decode cX7_change 15 = .ok (.getfield 98, 3) := by decide +kernel
theorem dX7_change_18 : decode cX7_change 18 = .ok (.iload_n 1, 1) := by decide +kernel
theorem dX7_change_19 : decode cX7_change 19 = .ok (.aaload, 1) := by decide +kernel
theorem dX7_change_20 : decode cX7_change 20 = .ok (.getfield 112, 3) := by decide +kernel
theorem dX7_change_23 : decode cX7_change 23 = .ok (.istore_n 2, 1) := by decide +kernel
theorem dX7_change_24 : decode cX7_change 24 = .ok (.aload_n 0, 1) := by decide +kernel
theorem dX7_change_25 : decode cX7_change 25 = .ok (.getfield 26, 3) := by decide +kernel
theorem dX7_change_28 : decode cX7_change 28 = .ok (.getfield 98, 3) := by decide +kernel
theorem dX7_change_31 : decode cX7_change 31 = .ok (.iload_n 1, 1) := by decide +kernel
theorem dX7_change_32 : decode cX7_change 32 = .ok (.aaload, 1) := by decide +kernel
theorem dX7_change_33 : decode cX7_change 33 = .ok (.iconst 0, 1) := by decide +kernel
theorem dX7_change_34 : decode cX7_change 34 = .ok (.putfield 112, 3) := by decide +kernel
theorem dX7_change_37 : decode cX7_change 37 = .ok (.aload_n 0, 1) := by decide +kernel
theorem dX7_change_38 : decode cX7_change 38 = .ok (.getfield 26, 3) := by decide +kernel
theorem dX7_change_41 : decode cX7_change 41 = .ok (.dup, 1) := by decide +kernel
theorem dX7_change_42 : decode cX7_change 42 = .ok (.getfield 159, 3) := by decide +kernel
theorem dX7_change_45 : decode cX7_change 45 = .ok (.bipush 40, 2) := by decide +kernel
theorem dX7_change_47 : decode cX7_change 47 = .ok (.iadd, 1) := by decide +kernel
theorem dX7_change_48 : decode cX7_change 48 = .ok (.putfield 159, 3) := by decide +kernel
theorem dX7_change_51 : decode cX7_change 51 = .ok (.iload_n 2, 1) := by decide +kernel
theorem dX7_change_52 : decode cX7_change 52 = .ok (.ireturn, 1) := by decide +kernel
set_option maxRecDepth 20000 in
theorem ggX7_exchange_X7_isKnown : GoodIn wsX7_exchange wsX7_isKnown := goodIn_r _ [11, 4, 12, 20, 21, 22, 23, 24, 25, 26, 27, 28, 41, 42, 43, 44] (by decide +kernel) (by decide +kernel)
set_option maxRecDepth 20000 in
theorem gX7_exchange_X7_isKnown : GoodIn wsX7_exchange (wsV RX7 94 RX7 yX7_isKnown wsX7_isKnown) := goodIn_app (goodIn_of _ (by decide +kernel)) ggX7_exchange_X7_isKnown
set_option maxRecDepth 20000 in
theorem ggX7_exchange_X4_swap : GoodIn wsX7_exchange wsX4_swap := goodIn_r _ [17, 18, 19, 29, 30, 31, 32, 33, 34, 35, 36] (by decide +kernel) (by decide +kernel)
set_option maxRecDepth 20000 in
theorem gX7_exchange_X4_swap : GoodIn wsX7_exchange (wsV RX7 169 RX4 yX4_swap wsX4_swap) := goodIn_app (goodIn_of _ (by decide +kernel)) ggX7_exchange_X4_swap
theorem dX7_exchange_0 : decode cX7_exchange 0 = .ok (.aload_n 0, 1) := by decide +kernel
theorem dX7_exchange_1 : decode cX7_exchange 1 = .ok (.iload_n 1, 1) := by decide +kernel
theorem dX7_exchange_2 : decode cX7_exchange 2 = .ok (.invokevirtual 94, 3) := by decide +kernel
theorem dX7_exchange_5 : decode cX7_exchange 5 = .ok (.ifCond .eq 16, 3) := by decide +kernel
theorem dX7_exchange_8 : decode cX7_exchange 8 = .ok (.aload_n 0, 1) := by decide +kernel
theorem dX7_exchange_9 : decode cX7_exchange 9 = .ok (.iload_n 2, 1) := by decide +kernel
theorem dX7_exchange_10 : decode cX7_exchange 10 = .ok (.invokevirtual 94, 3) := by decide +kernel
theorem dX7_exchange_13 : decode cX7_exchange 13 = .ok (.ifCond .eq 8, 3) := by decide +kernel
theorem dX7_exchange_16 : decode cX7_exchange 16 = .ok (.iload_n 1, 1) := by decide +kernel
theorem dX7_exchange_17 : decode cX7_exchange 17 = .ok (.iload_n 2, 1) := by decide +kernel
theorem dX7_exchange_18 : decode cX7_exchange 18 = .ok (.if_icmp .ne 6, 3) := by decide +kernel
theorem dX7_exchange_21 : decode cX7_exchange 21 = .ok (.bipush (-101), 2) := by decide +kernel
theorem dX7_exchange_23 : decode cX7_exchange 23 = .ok (.ireturn, 1) := by decide +kernel
theorem dX7_exchange_24 : decode cX7_exchange 24 = .ok (.aload_n 0, 1) := by decide +kernel
theorem dX7_exchange_25 : decode cX7_exchange 25 = .ok (.getfield 26, 3) := by decide +kernel
theorem dX7_exchange_28 : decode cX7_exchange 28 = .ok (.getfield 98, 3) := by decide +kernel
theorem dX7_exchange_31 : decode cX7_exchange 31 = .ok (.iload_n 1, 1) := by decide +kernel
theorem dX7_exchange_32 : decode cX7_exchange 32 = .ok (.aaload, 1) := by decide +kernel
theorem dX7_exchange_33 : decode cX7_exchange 33 = .ok (.getfield 112, 3) := by decide +kernel
theorem dX7_exchange_36 : decode cX7_exchange 36 = .ok (.aload_n 0, 1) := by decide +kernel
theorem dX7_exchange_37 : decode cX7_exchange 37 = .ok (.getfield 19, 3) := by decide +kernel
theorem dX7_exchange_40 : decode cX7_exchange 40 = .ok (.getfield 109, 3) := by decide +kernel
theorem dX7_exchange_43 : decode cX7_exchange 43 = .ok (.iload_n 2, 1) := by decide +kernel
theorem dX7_exchange_44 : decode cX7_exchange 44 = .ok (.iaload, 1) := by decide +kernel
theorem dX7_exchange_45 : decode cX7_exchange 45 = .ok (.if_icmp .gt 27, 3) := by decide +kernel
theorem dX7_exchange_48 : decode cX7_exchange 48 = .ok (.aload_n 0, 1) := by decide +kernel
theorem dX7_exchange_49 : decode cX7_exchange 49 = .ok (.getfield 26, 3) := by decide +kernel
theorem dX7_exchange_52 : decode cX7_exchange 52 = .ok (.getfield 98, 3) := by decide +kernel
theorem dX7_exchange_55 : decode cX7_exchange 55 = .ok (.iload_n 2, 1) := by decide +kernel
theorem dX7_exchange_56 : decode cX7_exchange 56 = .ok (.aaload, 1) := by decide +kernel
theorem dX7_exchange_57 : decode cX7_exchange 57 = .ok (.getfield 112, 3) := by decide +kernel
theorem dX7_exchange_60 : decode cX7_exchange 60 = .ok (.aload_n 0, 1) := by decide +kernel
theorem dX7_exchange_61 : decode cX7_exchange 61 = .ok (.getfield 19, 3) := by decide +kernel
theorem dX7_exchange_64 : decode cX7_exchange 64 = .ok (.getfield 109, 3) := by decide +kernel
theorem dX7_exchange_67 : decode cX7_exchange 67 = .ok (.iload_n 1, 1) := by decide +kernel
theorem dX7_exchange_68 : decode cX7_exchange 68 = .ok (.iaload, 1) := by decide +kernel
theorem dX7_exchange_69 : decode cX7_exchange 69 = .ok (.if_icmp .le 6, 3) := by decide +kernel
theorem dX7_exchange_72 : decode cX7_exchange 72 = .ok (.bipush (-103), 2) := by decide +kernel
theorem dX7_exchange_74 : decode cX7_exchange 74 = .ok (.ireturn, 1) := by decide +kernel
theorem dX7_exchange_75 : decode cX7_exchange 75 = .ok (.aload_n 0, 1) := by decide +kernel
theorem dX7_exchange_76 : decode cX7_exchange 76 = .ok (.getfield 26, 3) := by decide +kernel
theorem dX7_exchange_79 : decode cX7_exchange 79 = .ok (.iload_n 1, 1) := by decide +kernel
theorem dX7_exchange_80 : decode cX7_exchange 80 = .ok (.iload_n 2, 1) := by decide +kernel
theorem dX7_exchange_81 : decode cX7_exchange 81 = .ok (.invokevirtual 169, 3) := by decide +kernel
theorem dX7_exchange_84 : decode cX7_exchange 84 = .ok (.aload_n 0, 1) := by decide +kernel
theorem dX7_exchange_85 : decode cX7_exchange 85 = .ok (.getfield 26, 3) := by decide +kernel
theorem dX7_exchange_88 : decode cX7_exchange 88 = .ok (.dup, 1) := by decide +kernel
theorem dX7_exchange_89 : decode cX7_exchange 89 = .ok (.getfield 159, 3) := by decide +kernel
theorem dX7_exchange_92 : decode cX7_exchange 92 = .ok (.bipush 10, 2) := by decide +kernel
theorem dX7_exchange_94 : decode cX7_exchange 94 = .ok (.iadd, 1) := by decide +kernel
theorem dX7_exchange_95 : decode cX7_exchange 95 = .ok (.putfield 159, 3) := by decide +kernel
theorem dX7_exchange_98 : decode cX7_exchange 98 = .ok (.aload_n 0, 1) := by decide +kernel
theorem dX7_exchange_99 : decode cX7_exchange 99 = .ok (.getfield 26, 3) := by decide +kernel
theorem dX7_exchange_102 : decode cX7_exchange 102 = .ok (.getfield 159, 3) := by decide +kernel
theorem dX7_exchange_105 : decode cX7_exchange 105 = .ok (.ireturn, 1) := by decide +kernel
set_option maxRecDepth 20000 in
theorem ggX7_odds_X7_isKind : GoodIn wsX7_odds wsX7_isKind := goodIn_r _ [7, 8] (by decide +kernel) (by decide +kernel)
set_option maxRecDepth 20000 in
theorem gX7_odds_X7_isKind : GoodIn wsX7_odds (va_wsS RX7 125 yX7_isKind wsX7_isKind) := goodIn_app (goodIn_of _ (by decide +kernel)) ggX7_odds_X7_isKind
set_option maxRecDepth 20000 in
theorem ggX7_odds_X7_isKnown : GoodIn wsX7_odds wsX7_isKnown := goodIn_r _ [12, 1, 3, 50, 51, 52, 53, 54, 55, 56, 57, 58, 59, 60, 61, 62] (by decide +kernel) (by decide +kernel)
set_option maxRecDepth 20000 in
theorem gX7_odds_X7_isKnown : GoodIn wsX7_odds (wsV RX7 94 RX7 yX7_isKnown wsX7_isKnown) := goodIn_app (goodIn_of _ (by decide +kernel)) ggX7_odds_X7_isKnown
set_option maxRecDepth 20000 in
theorem ggX7_odds_X7_carryTenths : GoodIn wsX7_odds wsX7_carryTenths := goodIn_r _ [15, 16, 17, 6, 18] (by decide +kernel) (by decide +kernel)
set_option maxRecDepth 20000 in
theorem gX7_odds_X7_carryTenths : GoodIn wsX7_odds (va_wsS RX7 173 yX7_carryTenths wsX7_carryTenths) := goodIn_app (goodIn_of _ (by decide +kernel)) ggX7_odds_X7_carryTenths
set_option maxRecDepth 20000 in
theorem ggX7_odds_X7_nextTo : GoodIn wsX7_odds wsX7_nextTo := goodIn_r _ [21] (by decide +kernel) (by decide +kernel)
set_option maxRecDepth 20000 in
theorem gX7_odds_X7_nextTo : GoodIn wsX7_odds (va_wsS RX7 155 yX7_nextTo wsX7_nextTo) := goodIn_app (goodIn_of _ (by decide +kernel)) ggX7_odds_X7_nextTo
set_option maxRecDepth 20000 in
theorem ggX7_odds_X7_isFull : GoodIn wsX7_odds wsX7_isFull := goodIn_r _ [25, 26, 27, 28, 1, 29, 9, 10, 11, 6, 12, 3, 50, 51, 52, 53, 54, 55, 56, 57, 58, 63, 64, 65, 66, 67, 68, 69, 70, 71, 72, 73, 74, 59, 60, 61, 62] (by decide +kernel) (by decide +kernel)
set_option maxRecDepth 20000 in
theorem gX7_odds_X7_isFull : GoodIn wsX7_odds (wsV RX7 148 RX7 yX7_isFull wsX7_isFull) := goodIn_app (goodIn_of _ (by decide +kernel)) ggX7_odds_X7_isFull
set_option maxRecDepth 20000 in
theorem ggX7_odds_X7_costOf : GoodIn wsX7_odds wsX7_costOf := goodIn_r _ [32, 33, 34, 6, 35, 36, 37, 38, 39, 40, 41, 42, 43, 44, 45, 8, 13, 14, 15, 16, 17, 18] (by decide +kernel) (by decide +kernel)
set_option maxRecDepth 20000 in
theorem gX7_odds_X7_costOf : GoodIn wsX7_odds (va_wsS RX7 176 yX7_costOf wsX7_costOf) := goodIn_app (goodIn_of _ (by decide +kernel)) ggX7_odds_X7_costOf
set_option maxRecDepth 20000 in
theorem ggX7_odds_X7_tenthsAt : GoodIn wsX7_odds wsX7_tenthsAt := goodIn_r _ [49, 1, 2, 3, 9, 10, 11, 6, 12, 19, 20, 21, 22, 23, 24, 25, 26, 27, 28, 29, 33, 34, 35, 36, 37, 38, 39, 40, 41, 42, 43, 44, 45, 8, 50, 51, 52, 53, 54, 55, 56, 57, 58, 59, 60, 61, 62, 63, 64, 65, 66, 67, 68, 69, 70, 71, 72, 73, 74] (by decide +kernel) (by decide +kernel)
set_option maxRecDepth 20000 in
theorem gX7_odds_X7_tenthsAt : GoodIn wsX7_odds (wsV RX7 151 RX7 yX7_tenthsAt wsX7_tenthsAt) := goodIn_app (goodIn_of _ (by decide +kernel)) ggX7_odds_X7_tenthsAt
theorem dX7_odds_0 : decode cX7_odds 0 = .ok (.iload_n 1, 1) := by decide +kernel
theorem dX7_odds_1 : decode cX7_odds 1 = .ok (.invokestatic 125, 3) := by decide +kernel
theorem dX7_odds_4 : decode cX7_odds 4 = .ok (.ifCond .ne 6, 3) := by decide +kernel
theorem dX7_odds_7 : decode cX7_odds 7 = .ok (.bipush (-102), 2) := by decide +kernel
theorem dX7_odds_9 : decode cX7_odds 9 = .ok (.ireturn, 1) := by decide +kernel
theorem dX7_odds_10 : decode cX7_odds 10 = .ok (.aload_n 0, 1) := by decide +kernel
theorem dX7_odds_11 : decode cX7_odds 11 = .ok (.iload_n 2, 1) := by decide +kernel
theorem dX7_odds_12 : decode cX7_odds 12 = .ok (.invokevirtual 94, 3) := by decide +kernel
theorem dX7_odds_15 : decode cX7_odds 15 = .ok (.ifCond .ne 6, 3) := by decide +kernel
theorem dX7_odds_18 : decode cX7_odds 18 = .ok (.bipush (-101), 2) := by decide +kernel
theorem dX7_odds_20 : decode cX7_odds 20 = .ok (.ireturn, 1) := by decide +kernel
theorem dX7_odds_21 : decode cX7_odds 21 = .ok (.aload_n 0, 1) := by decide +kernel
theorem dX7_odds_22 : decode cX7_odds 22 = .ok (.getfield 19, 3) := by decide +kernel
theorem dX7_odds_25 : decode cX7_odds 25 = .ok (.getfield 106, 3) := by decide +kernel
theorem dX7_odds_28 : decode cX7_odds 28 = .ok (.iload_n 2, 1) := by decide +kernel
theorem dX7_odds_29 : decode cX7_odds 29 = .ok (.iaload, 1) := by decide +kernel
theorem dX7_odds_30 : decode cX7_odds 30 = .ok (.invokestatic 173, 3) := by decide +kernel
theorem dX7_odds_33 : decode cX7_odds 33 = .ok (.istore 4, 2) := by decide +kernel
theorem dX7_odds_35 : decode cX7_odds 35 = .ok (.iload_n 1, 1) := by decide +kernel
theorem dX7_odds_36 : decode cX7_odds 36 = .ok (.aload_n 0, 1) := by decide +kernel
theorem dX7_odds_37 : decode cX7_odds 37 = .ok (.getfield 19, 3) := by decide +kernel
theorem dX7_odds_40 : decode cX7_odds 40 = .ok (.getfield 106, 3) := by decide +kernel
theorem dX7_odds_43 : decode cX7_odds 43 = .ok (.iload_n 2, 1) := by decide +kernel
theorem dX7_odds_44 : decode cX7_odds 44 = .ok (.iaload, 1) := by decide +kernel
theorem dX7_odds_45 : decode cX7_odds 45 = .ok (.aload_n 0, 1) := by decide +kernel
theorem dX7_odds_46 : decode cX7_odds 46 = .ok (.iload_n 2, 1) := by decide +kernel
theorem dX7_odds_47 : decode cX7_odds 47 = .ok (.aload_n 0, 1) := by decide +kernel
theorem dX7_odds_48 : decode cX7_odds 48 = .ok (.getfield 19, 3) := by decide +kernel
theorem dX7_odds_51 : decode cX7_odds 51 = .ok (.getfield 91, 3) := by decide +kernel
theorem dX7_odds_54 : decode cX7_odds 54 = .ok (.invokestatic 155, 3) := by decide +kernel
theorem dX7_odds_57 : decode cX7_odds 57 = .ok (.invokevirtual 148, 3) := by decide +kernel
theorem dX7_odds_60 : decode cX7_odds 60 = .ok (.invokestatic 176, 3) := by decide +kernel
theorem dX7_odds_63 : decode cX7_odds 63 = .ok (.istore 5, 2) := by decide +kernel
theorem dX7_odds_65 : decode cX7_odds 65 = .ok (.iload_n 3, 1) := by decide +kernel
theorem dX7_odds_66 : decode cX7_odds 66 = .ok (.tableswitch 81 0 5 #[38, 46, 54, 62, 65, 68], 38) := by decide +kernel
theorem dX7_odds_104 : decode cX7_odds 104 = .ok (.aload_n 0, 1) := by decide +kernel
theorem dX7_odds_105 : decode cX7_odds 105 = .ok (.iload_n 1, 1) := by decide +kernel
theorem dX7_odds_106 : decode cX7_odds 106 = .ok (.iload_n 2, 1) := by decide +kernel
theorem dX7_odds_107 : decode cX7_odds 107 = .ok (.iconst 0, 1) := by decide +kernel
theorem dX7_odds_108 : decode cX7_odds 108 = .ok (.invokevirtual 151, 3) := by decide +kernel
theorem dX7_odds_111 : decode cX7_odds 111 = .ok (.ireturn, 1) := by decide +kernel
theorem dX7_odds_112 : decode cX7_odds 112 = .ok (.aload_n 0, 1) := by decide +kernel
theorem dX7_odds_113 : decode cX7_odds 113 = .ok (.iload_n 1, 1) := by decide +kernel
theorem dX7_odds_114 : decode cX7_odds 114 = .ok (.iload_n 2, 1) := by decide +kernel
theorem dX7_odds_115 : decode cX7_odds 115 = .ok (.iconst 1, 1) := by decide +kernel
theorem dX7_odds_116 : decode cX7_odds 116 = .ok (.invokevirtual 151, 3) := by decide +kernel
theorem dX7_odds_119 : decode cX7_odds 119 = .ok (.ireturn, 1) := by decide +kernel
theorem dX7_odds_120 : decode cX7_odds 120 = .ok (.aload_n 0, 1) := by decide +kernel
theorem dX7_odds_121 : decode cX7_odds 121 = .ok (.iload_n 1, 1) := by decide +kernel
theorem dX7_odds_122 : decode cX7_odds 122 = .ok (.iload_n 2, 1) := by decide +kernel
theorem dX7_odds_123 : decode cX7_odds 123 = .ok (.iconst 2, 1) := by decide +kernel
theorem dX7_odds_124 : decode cX7_odds 124 = .ok (.invokevirtual 151, 3) := by decide +kernel
theorem dX7_odds_127 : decode cX7_odds 127 = .ok (.ireturn, 1) := by decide +kernel
theorem dX7_odds_128 : decode cX7_odds 128 = .ok (.iload 5, 2) := by decide +kernel
theorem dX7_odds_130 : decode cX7_odds 130 = .ok (.ireturn, 1) := by decide +kernel
theorem dX7_odds_131 : decode cX7_odds 131 = .ok (.iload 4, 2) := by decide +kernel
theorem dX7_odds_133 : decode cX7_odds 133 = .ok (.ireturn, 1) := by decide +kernel
theorem dX7_odds_134 : decode cX7_odds 134 = .ok (.iload 5, 2) := by decide +kernel
theorem dX7_odds_136 : decode cX7_odds 136 = .ok (.iload 4, 2) := by decide +kernel
theorem dX7_odds_138 : decode cX7_odds 138 = .ok (.if_icmp .ge 7, 3) := by decide +kernel
theorem dX7_odds_141 : decode cX7_odds 141 = .ok (.iconst 1, 1) := by decide +kernel
theorem dX7_odds_142 : decode cX7_odds 142 = .ok (.goto 4, 3) := by decide +kernel
theorem dX7_odds_145 : decode cX7_odds 145 = .ok (.iconst 0, 1) := by decide +kernel
theorem dX7_odds_146 : decode cX7_odds 146 = .ok (.ireturn, 1) := by decide +kernel
theorem dX7_odds_147 : decode cX7_odds 147 = .ok (.bipush (-102), 2) := by decide +kernel
theorem dX7_odds_149 : decode cX7_odds 149 = .ok (.ireturn, 1) := by decide +kernel
set_option maxRecDepth 20000 in
theorem ggX7_hanging_X0_exchangesFrom : GoodIn wsX7_hanging wsX0_exchangesFrom := goodIn_r _ [11, 12, 13, 14, 15, 16, 17, 18, 37, 38, 39, 40, 41, 42, 43, 44, 45, 46, 47, 48] (by decide +kernel) (by decide +kernel)
set_option maxRecDepth 20000 in
theorem gX7_hanging_X0_exchangesFrom : GoodIn wsX7_hanging (wsV RX7 183 RX0 yX0_exchangesFrom wsX0_exchangesFrom) := goodIn_app (goodIn_of _ (by decide +kernel)) ggX7_hanging_X0_exchangesFrom
set_option maxRecDepth 20000 in
theorem ggX7_hanging_X7_isKnown : GoodIn wsX7_hanging wsX7_isKnown := goodIn_r _ [23, 1, 2, 24, 25, 26, 27, 28, 29, 30, 31, 32, 33, 34, 35, 36] (by decide +kernel) (by decide +kernel)
set_option maxRecDepth 20000 in
theorem gX7_hanging_X7_isKnown : GoodIn wsX7_hanging (wsV RX7 94 RX7 yX7_isKnown wsX7_isKnown) := goodIn_app (goodIn_of _ (by decide +kernel)) ggX7_hanging_X7_isKnown
theorem dX7_hanging_0 : decode cX7_hanging 0 = .ok (.iload_n 1, 1) := by decide +kernel
theorem dX7_hanging_1 : decode cX7_hanging 1 = .ok (.bipush 10, 2) := by decide +kernel
theorem dX7_hanging_3 : decode cX7_hanging 3 = .ok (.if_icmp .lt 13, 3) := by decide +kernel
theorem dX7_hanging_6 : decode cX7_hanging 6 = .ok (.iload_n 1, 1) := by decide +kernel
theorem dX7_hanging_7 : decode cX7_hanging 7 = .ok (.bipush 16, 2) := by decide +kernel
theorem dX7_hanging_9 : decode cX7_hanging 9 = .ok (.if_icmp .ge 7, 3) := by decide +kernel
theorem dX7_hanging_12 : decode cX7_hanging 12 = .ok (.iconst 1, 1) := by decide +kernel
theorem dX7_hanging_13 : decode cX7_hanging 13 = .ok (.goto 4, 3) := by decide +kernel
theorem dX7_hanging_16 : decode cX7_hanging 16 = .ok (.iconst 0, 1) := by decide +kernel
theorem dX7_hanging_17 : decode cX7_hanging 17 = .ok (.istore_n 2, 1) := by decide +kernel
theorem dX7_hanging_18 : decode cX7_hanging 18 = .ok (.iload_n 1, 1) := by decide +kernel
theorem dX7_hanging_19 : decode cX7_hanging 19 = .ok (.ifCond .eq 15, 3) := by decide +kernel
theorem dX7_hanging_22 : decode cX7_hanging 22 = .ok (.iload_n 1, 1) := by decide +kernel
theorem dX7_hanging_23 : decode cX7_hanging 23 = .ok (.iconst 1, 1) := by decide +kernel
theorem dX7_hanging_24 : decode cX7_hanging 24 = .ok (.if_icmp .eq 10, 3) := by decide +kernel
theorem dX7_hanging_27 : decode cX7_hanging 27 = .ok (.iload_n 2, 1) := by decide +kernel
theorem dX7_hanging_28 : decode cX7_hanging 28 = .ok (.ifCond .ne 6, 3) := by decide +kernel
theorem dX7_hanging_31 : decode cX7_hanging 31 = .ok (.bipush (-102), 2) := by decide +kernel
theorem dX7_hanging_33 : decode cX7_hanging 33 = .ok (.ireturn, 1) := by decide +kernel
theorem dX7_hanging_34 : decode cX7_hanging 34 = .ok (.aload_n 0, 1) := by decide +kernel
theorem dX7_hanging_35 : decode cX7_hanging 35 = .ok (.getfield 19, 3) := by decide +kernel
theorem dX7_hanging_38 : decode cX7_hanging 38 = .ok (.getfield 91, 3) := by decide +kernel
theorem dX7_hanging_41 : decode cX7_hanging 41 = .ok (.ifCond .ne 6, 3) := by decide +kernel
theorem dX7_hanging_44 : decode cX7_hanging 44 = .ok (.bipush (-103), 2) := by decide +kernel
theorem dX7_hanging_46 : decode cX7_hanging 46 = .ok (.ireturn, 1) := by decide +kernel
theorem dX7_hanging_47 : decode cX7_hanging 47 = .ok (.iload_n 1, 1) := by decide +kernel
theorem dX7_hanging_48 : decode cX7_hanging 48 = .ok (.ifCond .ne 11, 3) := by decide +kernel
theorem dX7_hanging_51 : decode cX7_hanging 51 = .ok (.aload_n 0, 1) := by decide +kernel
theorem dX7_hanging_52 : decode cX7_hanging 52 = .ok (.getfield 36, 3) := by decide +kernel
theorem dX7_hanging_55 : decode cX7_hanging 55 = .ok (.getfield 180, 3) := by decide +kernel
theorem dX7_hanging_58 : decode cX7_hanging 58 = .ok (.ireturn, 1) := by decide +kernel
theorem dX7_hanging_59 : decode cX7_hanging 59 = .ok (.iload_n 1, 1) := by decide +kernel
theorem dX7_hanging_60 : decode cX7_hanging 60 = .ok (.iconst 1, 1) := by decide +kernel
theorem dX7_hanging_61 : decode cX7_hanging 61 = .ok (.if_icmp .ne 22, 3) := by decide +kernel
theorem dX7_hanging_64 : decode cX7_hanging 64 = .ok (.aload_n 0, 1) := by decide +kernel
theorem dX7_hanging_65 : decode cX7_hanging 65 = .ok (.getfield 36, 3) := by decide +kernel
theorem dX7_hanging_68 : decode cX7_hanging 68 = .ok (.aload_n 0, 1) := by decide +kernel
theorem dX7_hanging_69 : decode cX7_hanging 69 = .ok (.getfield 26, 3) := by decide +kernel
theorem dX7_hanging_72 : decode cX7_hanging 72 = .ok (.aload_n 0, 1) := by decide +kernel
theorem dX7_hanging_73 : decode cX7_hanging 73 = .ok (.getfield 19, 3) := by decide +kernel
theorem dX7_hanging_76 : decode cX7_hanging 76 = .ok (.getfield 91, 3) := by decide +kernel
theorem dX7_hanging_79 : decode cX7_hanging 79 = .ok (.invokevirtual 183, 3) := by decide +kernel
theorem dX7_hanging_82 : decode cX7_hanging 82 = .ok (.ireturn, 1) := by decide +kernel
theorem dX7_hanging_83 : decode cX7_hanging 83 = .ok (.aload_n 0, 1) := by decide +kernel
theorem dX7_hanging_84 : decode cX7_hanging 84 = .ok (.iload_n 1, 1) := by decide +kernel
theorem dX7_hanging_85 : decode cX7_hanging 85 = .ok (.bipush 10, 2) := by decide +kernel
theorem dX7_hanging_87 : decode cX7_hanging 87 = .ok (.isub, 1) := by decide +kernel
theorem dX7_hanging_88 : decode cX7_hanging 88 = .ok (.invokevirtual 94, 3) := by decide +kernel
theorem dX7_hanging_91 : decode cX7_hanging 91 = .ok (.ifCond .eq 18, 3) := by decide +kernel
theorem dX7_hanging_94 : decode cX7_hanging 94 = .ok (.aload_n 0, 1) := by decide +kernel
theorem dX7_hanging_95 : decode cX7_hanging 95 = .ok (.getfield 36, 3) := by decide +kernel
theorem dX7_hanging_98 : decode cX7_hanging 98 = .ok (.getfield 187, 3) := by decide +kernel
theorem dX7_hanging_101 : decode cX7_hanging 101 = .ok (.iload_n 1, 1) := by decide +kernel
theorem dX7_hanging_102 : decode cX7_hanging 102 = .ok (.bipush 10, 2) := by decide +kernel
theorem dX7_hanging_104 : decode cX7_hanging 104 = .ok (.isub, 1) := by decide +kernel
theorem dX7_hanging_105 : decode cX7_hanging 105 = .ok (.iaload, 1) := by decide +kernel
theorem dX7_hanging_106 : decode cX7_hanging 106 = .ok (.goto 4, 3) := by decide +kernel
theorem dX7_hanging_109 : decode cX7_hanging 109 = .ok (.iconst (-1), 1) := by decide +kernel
theorem dX7_hanging_110 : decode cX7_hanging 110 = .ok (.ireturn, 1) := by decide +kernel
set_option maxRecDepth 20000 in
theorem ggX7_found_X7_isKnown : GoodIn wsX7_found wsX7_isKnown := goodIn_r _ [9, 10, 11, 20, 21, 22, 23, 24, 25, 26, 27, 28, 42, 43, 44, 45] (by decide +kernel) (by decide +kernel)
set_option maxRecDepth 20000 in
theorem gX7_found_X7_isKnown : GoodIn wsX7_found (wsV RX7 94 RX7 yX7_isKnown wsX7_isKnown) := goodIn_app (goodIn_of _ (by decide +kernel)) ggX7_found_X7_isKnown
set_option maxRecDepth 20000 in
theorem ggX7_found_X4_addFound : GoodIn wsX7_found wsX4_addFound := goodIn_r _ [16, 17, 18, 19, 29, 30, 31, 32, 33, 34, 35, 36] (by decide +kernel) (by decide +kernel)
set_option maxRecDepth 20000 in
theorem gX7_found_X4_addFound : GoodIn wsX7_found (wsV RX7 191 RX4 yX4_addFound wsX4_addFound) := goodIn_app (goodIn_of _ (by decide +kernel)) ggX7_found_X4_addFound
theorem dX7_found_0 : decode cX7_found 0 = .ok (.aload_n 0, 1) := by decide +kernel
theorem dX7_found_1 : decode cX7_found 1 = .ok (.iload_n 1, 1) := by decide +kernel
theorem dX7_found_2 : decode cX7_found 2 = .ok (.invokevirtual 94, 3) := by decide +kernel
theorem dX7_found_5 : decode cX7_found 5 = .ok (.ifCond .eq 16, 3) := by decide +kernel
theorem dX7_found_8 : decode cX7_found 8 = .ok (.aload_n 0, 1) := by decide +kernel
theorem dX7_found_9 : decode cX7_found 9 = .ok (.iload_n 2, 1) := by decide +kernel
theorem dX7_found_10 : decode cX7_found 10 = .ok (.invokevirtual 94, 3) := by decide +kernel
theorem dX7_found_13 : decode cX7_found 13 = .ok (.ifCond .eq 8, 3) := by decide +kernel
theorem dX7_found_16 : decode cX7_found 16 = .ok (.iload_n 1, 1) := by decide +kernel
theorem dX7_found_17 : decode cX7_found 17 = .ok (.iload_n 2, 1) := by decide +kernel
theorem dX7_found_18 : decode cX7_found 18 = .ok (.if_icmp .ne 6, 3) := by decide +kernel
theorem dX7_found_21 : decode cX7_found 21 = .ok (.bipush (-101), 2) := by decide +kernel
theorem dX7_found_23 : decode cX7_found 23 = .ok (.ireturn, 1) := by decide +kernel
theorem dX7_found_24 : decode cX7_found 24 = .ok (.aload_n 0, 1) := by decide +kernel
theorem dX7_found_25 : decode cX7_found 25 = .ok (.getfield 26, 3) := by decide +kernel
theorem dX7_found_28 : decode cX7_found 28 = .ok (.getfield 188, 3) := by decide +kernel
theorem dX7_found_31 : decode cX7_found 31 = .ok (.bipush 8, 2) := by decide +kernel
theorem dX7_found_33 : decode cX7_found 33 = .ok (.if_icmp .lt 6, 3) := by decide +kernel
theorem dX7_found_36 : decode cX7_found 36 = .ok (.bipush (-104), 2) := by decide +kernel
theorem dX7_found_38 : decode cX7_found 38 = .ok (.ireturn, 1) := by decide +kernel
theorem dX7_found_39 : decode cX7_found 39 = .ok (.aload_n 0, 1) := by decide +kernel
theorem dX7_found_40 : decode cX7_found 40 = .ok (.getfield 26, 3) := by decide +kernel
theorem dX7_found_43 : decode cX7_found 43 = .ok (.iload_n 1, 1) := by decide +kernel
theorem dX7_found_44 : decode cX7_found 44 = .ok (.iload_n 2, 1) := by decide +kernel
theorem dX7_found_45 : decode cX7_found 45 = .ok (.invokevirtual 191, 3) := by decide +kernel
theorem dX7_found_48 : decode cX7_found 48 = .ok (.aload_n 0, 1) := by decide +kernel
theorem dX7_found_49 : decode cX7_found 49 = .ok (.getfield 43, 3) := by decide +kernel
theorem dX7_found_52 : decode cX7_found 52 = .ok (.iconst 0, 1) := by decide +kernel
theorem dX7_found_53 : decode cX7_found 53 = .ok (.putfield 81, 3) := by decide +kernel
theorem dX7_found_56 : decode cX7_found 56 = .ok (.aload_n 0, 1) := by decide +kernel
theorem dX7_found_57 : decode cX7_found 57 = .ok (.getfield 26, 3) := by decide +kernel
theorem dX7_found_60 : decode cX7_found 60 = .ok (.getfield 188, 3) := by decide +kernel
theorem dX7_found_63 : decode cX7_found 63 = .ok (.ireturn, 1) := by decide +kernel
theorem dX7_forget_0 : decode cX7_forget 0 = .ok (.aload_n 0, 1) := by decide +kernel
theorem dX7_forget_1 : decode cX7_forget 1 = .ok (.getfield 26, 3) := by decide +kernel
theorem dX7_forget_4 : decode cX7_forget 4 = .ok (.getfield 188, 3) := by decide +kernel
theorem dX7_forget_7 : decode cX7_forget 7 = .ok (.istore_n 1, 1) := by decide +kernel
theorem dX7_forget_8 : decode cX7_forget 8 = .ok (.aload_n 0, 1) := by decide +kernel
theorem dX7_forget_9 : decode cX7_forget 9 = .ok (.getfield 26, 3) := by decide +kernel
theorem dX7_forget_12 : decode cX7_forget 12 = .ok (.iconst 0, 1) := by decide +kernel
theorem dX7_forget_13 : decode cX7_forget 13 = .ok (.putfield 188, 3) := by decide +kernel
theorem dX7_forget_16 : decode cX7_forget 16 = .ok (.aload_n 0, 1) := by decide +kernel
theorem dX7_forget_17 : decode cX7_forget 17 = .ok (.getfield 43, 3) := by decide +kernel
theorem dX7_forget_20 : decode cX7_forget 20 = .ok (.iconst 0, 1) := by decide +kernel
theorem dX7_forget_21 : decode cX7_forget 21 = .ok (.putfield 81, 3) := by decide +kernel
theorem dX7_forget_24 : decode cX7_forget 24 = .ok (.iload_n 1, 1) := by decide +kernel
theorem dX7_forget_25 : decode cX7_forget 25 = .ok (.ireturn, 1) := by decide +kernel
set_option maxRecDepth 20000 in
theorem ggX7_hung_X6_seek : GoodIn wsX7_hung wsX6_seek := goodIn_r _ [10, 11, 12, 13, 14, 15, 16, 17, 18, 19, 20, 21, 22, 23, 24, 9, 25, 26, 27, 28, 29, 30, 31, 32, 33, 34, 35, 36, 37, 38, 39, 40, 41, 55, 56, 57, 58, 59, 60, 61, 62, 63, 64, 65, 66, 67] (by decide +kernel) (by decide +kernel)
set_option maxRecDepth 20000 in
theorem gX7_hung_X6_seek : GoodIn wsX7_hung (wsV RX7 194 RX6 yX6_seek wsX6_seek) := goodIn_app (goodIn_of _ (by decide +kernel)) ggX7_hung_X6_seek
theorem dX7_hung_0 : decode cX7_hung 0 = .ok (.aload_n 0, 1) := by decide +kernel
theorem dX7_hung_1 : decode cX7_hung 1 = .ok (.getfield 19, 3) := by decide +kernel
theorem dX7_hung_4 : decode cX7_hung 4 = .ok (.getfield 91, 3) := by decide +kernel
theorem dX7_hung_7 : decode cX7_hung 7 = .ok (.ifCond .ne 6, 3) := by decide +kernel
theorem dX7_hung_10 : decode cX7_hung 10 = .ok (.bipush (-103), 2) := by decide +kernel
theorem dX7_hung_12 : decode cX7_hung 12 = .ok (.ireturn, 1) := by decide +kernel
theorem dX7_hung_13 : decode cX7_hung 13 = .ok (.aload_n 0, 1) := by decide +kernel
theorem dX7_hung_14 : decode cX7_hung 14 = .ok (.getfield 43, 3) := by decide +kernel
theorem dX7_hung_17 : decode cX7_hung 17 = .ok (.aload_n 0, 1) := by decide +kernel
theorem dX7_hung_18 : decode cX7_hung 18 = .ok (.getfield 26, 3) := by decide +kernel
theorem dX7_hung_21 : decode cX7_hung 21 = .ok (.aload_n 0, 1) := by decide +kernel
theorem dX7_hung_22 : decode cX7_hung 22 = .ok (.getfield 19, 3) := by decide +kernel
theorem dX7_hung_25 : decode cX7_hung 25 = .ok (.getfield 91, 3) := by decide +kernel
theorem dX7_hung_28 : decode cX7_hung 28 = .ok (.invokevirtual 194, 3) := by decide +kernel
theorem dX7_hung_31 : decode cX7_hung 31 = .ok (.aload_n 0, 1) := by decide +kernel
theorem dX7_hung_32 : decode cX7_hung 32 = .ok (.getfield 43, 3) := by decide +kernel
theorem dX7_hung_35 : decode cX7_hung 35 = .ok (.getfield 197, 3) := by decide +kernel
theorem dX7_hung_38 : decode cX7_hung 38 = .ok (.ireturn, 1) := by decide +kernel
set_option maxRecDepth 20000 in
theorem ggX7_where_X7_isKnown : GoodIn wsX7_where wsX7_isKnown := goodIn_r _ [10, 3, 4, 47, 48, 49, 50, 51, 52, 53, 54, 55, 56, 57, 58, 59] (by decide +kernel) (by decide +kernel)
set_option maxRecDepth 20000 in
theorem gX7_where_X7_isKnown : GoodIn wsX7_where (wsV RX7 94 RX7 yX7_isKnown wsX7_isKnown) := goodIn_app (goodIn_of _ (by decide +kernel)) ggX7_where_X7_isKnown
set_option maxRecDepth 20000 in
theorem ggX7_where_X6_seek : GoodIn wsX7_where wsX6_seek := goodIn_r _ [15, 16, 17, 18, 19, 20, 21, 22, 23, 24, 25, 26, 27, 28, 29, 14, 30, 31, 32, 33, 34, 35, 36, 37, 38, 39, 40, 41, 42, 43, 44, 45, 46, 60, 61, 62, 63, 64, 65, 66, 67, 68, 69, 70, 71, 72] (by decide +kernel) (by decide +kernel)
set_option maxRecDepth 20000 in
theorem gX7_where_X6_seek : GoodIn wsX7_where (wsV RX7 194 RX6 yX6_seek wsX6_seek) := goodIn_app (goodIn_of _ (by decide +kernel)) ggX7_where_X6_seek
theorem dX7_where_0 : decode cX7_where 0 = .ok (.aload_n 0, 1) := by decide +kernel
end
section
theorem dX7_where_1 : decode cX7_where 1 = .ok (.iload_n 1, 1) := by decide +kernel
theorem dX7_where_2 : decode cX7_where 2 = .ok (.invokevirtual 94, 3) := by decide +kernel
theorem dX7_where_5 : decode cX7_where 5 = .ok (.ifCond .ne 6, 3) := by decide +kernel
theorem dX7_where_8 : decode cX7_where 8 = .ok (.bipush (-101), 2) := by decide +kernel
theorem dX7_where_10 : decode cX7_where 10 = .ok (.ireturn, 1) := by decide +kernel
theorem dX7_where_11 : decode cX7_where 11 = .ok (.aload_n 0, 1) := by decide +kernel
theorem dX7_where_12 : decode cX7_where 12 = .ok (.getfield 43, 3) := by decide +kernel
theorem dX7_where_15 : decode cX7_where 15 = .ok (.aload_n 0, 1) := by decide +kernel
theorem dX7_where_16 : decode cX7_where 16 = .ok (.getfield 26, 3) := by decide +kernel
theorem dX7_where_19 : decode cX7_where 19 = .ok (.aload_n 0, 1) := by decide +kernel
theorem dX7_where_20 : decode cX7_where 20 = .ok (.getfield 19, 3) := by decide +kernel
theorem dX7_where_23 : decode cX7_where 23 = .ok (.getfield 91, 3) := by decide +kernel
theorem dX7_where_26 : decode cX7_where 26 = .ok (.invokevirtual 194, 3) := by decide +kernel
theorem dX7_where_29 : decode cX7_where 29 = .ok (.aload_n 0, 1) := by decide +kernel
theorem dX7_where_30 : decode cX7_where 30 = .ok (.getfield 43, 3) := by decide +kernel
theorem dX7_where_33 : decode cX7_where 33 = .ok (.getfield 200, 3) := by decide +kernel
theorem dX7_where_36 : decode cX7_where 36 = .ok (.iload_n 1, 1) := by decide +kernel
theorem dX7_where_37 : decode cX7_where 37 = .ok (.iaload, 1) := by decide +kernel
theorem dX7_where_38 : decode cX7_where 38 = .ok (.ireturn, 1) := by decide +kernel
set_option maxRecDepth 20000 in
theorem ggX7_shifts_X5_run : GoodIn wsX7_shifts wsX5_run := goodIn_r _ [12, 13, 14, 15, 16, 17, 18, 19, 20, 21, 22, 23, 24, 11, 25, 26, 27, 28, 29, 30, 31, 32, 33, 34, 35, 36, 37, 38, 39, 40, 41, 42, 43, 44, 45, 46, 47, 48, 49, 50, 51, 52, 53, 54, 55, 56, 70, 71, 72, 73, 66, 67, 68, 69, 74, 75, 76, 77, 78, 79, 80, 81] (by decide +kernel) (by decide +kernel)
set_option maxRecDepth 20000 in
theorem gX7_shifts_X5_run : GoodIn wsX7_shifts (wsV RX7 203 RX5 yX5_run wsX5_run) := goodIn_app (goodIn_of _ (by decide +kernel)) ggX7_shifts_X5_run
theorem dX7_shifts_0 : decode cX7_shifts 0 = .ok (.iload_n 1, 1) := by decide +kernel
theorem dX7_shifts_1 : decode cX7_shifts 1 = .ok (.iconst 1, 1) := by decide +kernel
theorem dX7_shifts_2 : decode cX7_shifts 2 = .ok (.if_icmp .lt 22, 3) := by decide +kernel
theorem dX7_shifts_5 : decode cX7_shifts 5 = .ok (.iload_n 1, 1) := by decide +kernel
theorem dX7_shifts_6 : decode cX7_shifts 6 = .ok (.bipush 60, 2) := by decide +kernel
theorem dX7_shifts_8 : decode cX7_shifts 8 = .ok (.if_icmp .gt 16, 3) := by decide +kernel
theorem dX7_shifts_11 : decode cX7_shifts 11 = .ok (.iload_n 2, 1) := by decide +kernel
theorem dX7_shifts_12 : decode cX7_shifts 12 = .ok (.ifCond .lt 12, 3) := by decide +kernel
theorem dX7_shifts_15 : decode cX7_shifts 15 = .ok (.iload_n 3, 1) := by decide +kernel
theorem dX7_shifts_16 : decode cX7_shifts 16 = .ok (.ifCond .lt 8, 3) := by decide +kernel
theorem dX7_shifts_19 : decode cX7_shifts 19 = .ok (.iload_n 3, 1) := by decide +kernel
theorem dX7_shifts_20 : decode cX7_shifts 20 = .ok (.iconst 2, 1) := by decide +kernel
theorem dX7_shifts_21 : decode cX7_shifts 21 = .ok (.if_icmp .le 6, 3) := by decide +kernel
theorem dX7_shifts_24 : decode cX7_shifts 24 = .ok (.bipush (-102), 2) := by decide +kernel
theorem dX7_shifts_26 : decode cX7_shifts 26 = .ok (.ireturn, 1) := by decide +kernel
theorem dX7_shifts_27 : decode cX7_shifts 27 = .ok (.aload_n 0, 1) := by decide +kernel
theorem dX7_shifts_28 : decode cX7_shifts 28 = .ok (.getfield 19, 3) := by decide +kernel
theorem dX7_shifts_31 : decode cX7_shifts 31 = .ok (.getfield 91, 3) := by decide +kernel
theorem dX7_shifts_34 : decode cX7_shifts 34 = .ok (.ifCond .ne 6, 3) := by decide +kernel
theorem dX7_shifts_37 : decode cX7_shifts 37 = .ok (.bipush (-103), 2) := by decide +kernel
theorem dX7_shifts_39 : decode cX7_shifts 39 = .ok (.ireturn, 1) := by decide +kernel
theorem dX7_shifts_40 : decode cX7_shifts 40 = .ok (.aload_n 0, 1) := by decide +kernel
theorem dX7_shifts_41 : decode cX7_shifts 41 = .ok (.getfield 50, 3) := by decide +kernel
theorem dX7_shifts_44 : decode cX7_shifts 44 = .ok (.aload_n 0, 1) := by decide +kernel
theorem dX7_shifts_45 : decode cX7_shifts 45 = .ok (.getfield 19, 3) := by decide +kernel
theorem dX7_shifts_48 : decode cX7_shifts 48 = .ok (.aload_n 0, 1) := by decide +kernel
theorem dX7_shifts_49 : decode cX7_shifts 49 = .ok (.getfield 26, 3) := by decide +kernel
theorem dX7_shifts_52 : decode cX7_shifts 52 = .ok (.iload_n 1, 1) := by decide +kernel
theorem dX7_shifts_53 : decode cX7_shifts 53 = .ok (.iload_n 2, 1) := by decide +kernel
theorem dX7_shifts_54 : decode cX7_shifts 54 = .ok (.invokevirtual 203, 3) := by decide +kernel
theorem dX7_shifts_57 : decode cX7_shifts 57 = .ok (.iload_n 3, 1) := by decide +kernel
theorem dX7_shifts_58 : decode cX7_shifts 58 = .ok (.ifCond .ne 11, 3) := by decide +kernel
theorem dX7_shifts_61 : decode cX7_shifts 61 = .ok (.aload_n 0, 1) := by decide +kernel
theorem dX7_shifts_62 : decode cX7_shifts 62 = .ok (.getfield 50, 3) := by decide +kernel
theorem dX7_shifts_65 : decode cX7_shifts 65 = .ok (.getfield 207, 3) := by decide +kernel
theorem dX7_shifts_68 : decode cX7_shifts 68 = .ok (.ireturn, 1) := by decide +kernel
theorem dX7_shifts_69 : decode cX7_shifts 69 = .ok (.iload_n 3, 1) := by decide +kernel
theorem dX7_shifts_70 : decode cX7_shifts 70 = .ok (.iconst 1, 1) := by decide +kernel
theorem dX7_shifts_71 : decode cX7_shifts 71 = .ok (.if_icmp .ne 13, 3) := by decide +kernel
theorem dX7_shifts_74 : decode cX7_shifts 74 = .ok (.aload_n 0, 1) := by decide +kernel
theorem dX7_shifts_75 : decode cX7_shifts 75 = .ok (.getfield 50, 3) := by decide +kernel
theorem dX7_shifts_78 : decode cX7_shifts 78 = .ok (.getfield 210, 3) := by decide +kernel
theorem dX7_shifts_81 : decode cX7_shifts 81 = .ok (.goto 10, 3) := by decide +kernel
theorem dX7_shifts_84 : decode cX7_shifts 84 = .ok (.aload_n 0, 1) := by decide +kernel
theorem dX7_shifts_85 : decode cX7_shifts 85 = .ok (.getfield 50, 3) := by decide +kernel
theorem dX7_shifts_88 : decode cX7_shifts 88 = .ok (.getfield 213, 3) := by decide +kernel
theorem dX7_shifts_91 : decode cX7_shifts 91 = .ok (.ireturn, 1) := by decide +kernel
set_option maxRecDepth 20000 in
theorem ggX7_image_X4_copy : GoodIn wsX7_image wsX4_copy := goodIn_r _ [11, 12, 13, 14, 15, 16, 17, 18, 19, 20, 21, 22, 23, 24, 25, 26, 27, 28, 42, 43, 44, 45, 46, 47, 48, 49, 50, 51, 52, 53] (by decide +kernel) (by decide +kernel)
set_option maxRecDepth 20000 in
theorem gX7_image_X4_copy : GoodIn wsX7_image (wsV RX7 216 RX4 yX4_copy wsX4_copy) := goodIn_app (goodIn_of _ (by decide +kernel)) ggX7_image_X4_copy
theorem dX7_image_0 : decode cX7_image 0 = .ok (.aload_n 0, 1) := by decide +kernel
theorem dX7_image_1 : decode cX7_image 1 = .ok (.getfield 19, 3) := by decide +kernel
theorem dX7_image_4 : decode cX7_image 4 = .ok (.getfield 91, 3) := by decide +kernel
theorem dX7_image_7 : decode cX7_image 7 = .ok (.ifCond .ne 6, 3) := by decide +kernel
theorem dX7_image_10 : decode cX7_image 10 = .ok (.bipush (-103), 2) := by decide +kernel
theorem dX7_image_12 : decode cX7_image 12 = .ok (.ireturn, 1) := by decide +kernel
theorem dX7_image_13 : decode cX7_image 13 = .ok (.aload_n 0, 1) := by decide +kernel
theorem dX7_image_14 : decode cX7_image 14 = .ok (.getfield 30, 3) := by decide +kernel
theorem dX7_image_17 : decode cX7_image 17 = .ok (.aload_n 0, 1) := by decide +kernel
theorem dX7_image_18 : decode cX7_image 18 = .ok (.getfield 26, 3) := by decide +kernel
theorem dX7_image_21 : decode cX7_image 21 = .ok (.invokevirtual 216, 3) := by decide +kernel
theorem dX7_image_24 : decode cX7_image 24 = .ok (.aload_n 0, 1) := by decide +kernel
theorem dX7_image_25 : decode cX7_image 25 = .ok (.iconst 1, 1) := by decide +kernel
theorem dX7_image_26 : decode cX7_image 26 = .ok (.putfield 85, 3) := by decide +kernel
theorem dX7_image_29 : decode cX7_image 29 = .ok (.aload_n 0, 1) := by decide +kernel
theorem dX7_image_30 : decode cX7_image 30 = .ok (.getfield 26, 3) := by decide +kernel
theorem dX7_image_33 : decode cX7_image 33 = .ok (.getfield 159, 3) := by decide +kernel
theorem dX7_image_36 : decode cX7_image 36 = .ok (.ireturn, 1) := by decide +kernel
set_option maxRecDepth 20000 in
theorem ggX7_restore_X4_copy : GoodIn wsX7_restore wsX4_copy := goodIn_r _ [11, 12, 13, 14, 15, 16, 17, 18, 19, 20, 21, 22, 23, 24, 25, 26, 27, 28, 43, 44, 45, 46, 47, 48, 49, 50, 51, 52, 53, 54] (by decide +kernel) (by decide +kernel)
set_option maxRecDepth 20000 in
theorem gX7_restore_X4_copy : GoodIn wsX7_restore (wsV RX7 216 RX4 yX4_copy wsX4_copy) := goodIn_app (goodIn_of _ (by decide +kernel)) ggX7_restore_X4_copy
theorem dX7_restore_0 : decode cX7_restore 0 = .ok (.aload_n 0, 1) := by decide +kernel
theorem dX7_restore_1 : decode cX7_restore 1 = .ok (.getfield 85, 3) := by decide +kernel
theorem dX7_restore_4 : decode cX7_restore 4 = .ok (.ifCond .ne 6, 3) := by decide +kernel
theorem dX7_restore_7 : decode cX7_restore 7 = .ok (.bipush (-103), 2) := by decide +kernel
theorem dX7_restore_9 : decode cX7_restore 9 = .ok (.ireturn, 1) := by decide +kernel
theorem dX7_restore_10 : decode cX7_restore 10 = .ok (.aload_n 0, 1) := by decide +kernel
theorem dX7_restore_11 : decode cX7_restore 11 = .ok (.getfield 26, 3) := by decide +kernel
theorem dX7_restore_14 : decode cX7_restore 14 = .ok (.aload_n 0, 1) := by decide +kernel
theorem dX7_restore_15 : decode cX7_restore 15 = .ok (.getfield 30, 3) := by decide +kernel
theorem dX7_restore_18 : decode cX7_restore 18 = .ok (.invokevirtual 216, 3) := by decide +kernel
theorem dX7_restore_21 : decode cX7_restore 21 = .ok (.aload_n 0, 1) := by decide +kernel
theorem dX7_restore_22 : decode cX7_restore 22 = .ok (.getfield 43, 3) := by decide +kernel
theorem dX7_restore_25 : decode cX7_restore 25 = .ok (.iconst 0, 1) := by decide +kernel
theorem dX7_restore_26 : decode cX7_restore 26 = .ok (.putfield 81, 3) := by decide +kernel
theorem dX7_restore_29 : decode cX7_restore 29 = .ok (.aload_n 0, 1) := by decide +kernel
theorem dX7_restore_30 : decode cX7_restore 30 = .ok (.getfield 26, 3) := by decide +kernel
theorem dX7_restore_33 : decode cX7_restore 33 = .ok (.getfield 159, 3) := by decide +kernel
theorem dX7_restore_36 : decode cX7_restore 36 = .ok (.ireturn, 1) := by decide +kernel
set_option maxRecDepth 20000 in
theorem ggX7_count_X4_inSacks : GoodIn wsX7_count wsX4_inSacks := goodIn_r _ [16, 17, 18, 44, 45, 46, 47, 48, 49, 50, 51, 52, 53, 54, 55] (by decide +kernel) (by decide +kernel)
set_option maxRecDepth 20000 in
theorem gX7_count_X4_inSacks : GoodIn wsX7_count (wsV RX7 220 RX4 yX4_inSacks wsX4_inSacks) := goodIn_app (goodIn_of _ (by decide +kernel)) ggX7_count_X4_inSacks
set_option maxRecDepth 20000 in
theorem ggX7_count_X4_wrongInSacks : GoodIn wsX7_count wsX4_wrongInSacks := goodIn_r _ [22, 17, 23, 24, 25, 26, 27, 28, 29, 30, 44, 45, 46, 47, 48, 49, 50, 51, 52, 53, 54, 55] (by decide +kernel) (by decide +kernel)
set_option maxRecDepth 20000 in
theorem gX7_count_X4_wrongInSacks : GoodIn wsX7_count (wsV RX7 223 RX4 yX4_wrongInSacks wsX4_wrongInSacks) := goodIn_app (goodIn_of _ (by decide +kernel)) ggX7_count_X4_wrongInSacks
theorem dX7_count_0 : decode cX7_count 0 = .ok (.iload_n 1, 1) := by decide +kernel
theorem dX7_count_1 : decode cX7_count 1 = .ok (.tableswitch 137 0 8 #[51, 59, 70, 85, 100, 108, 116, 124, 132], 51) := by decide +kernel
theorem dX7_count_52 : decode cX7_count 52 = .ok (.aload_n 0, 1) := by decide +kernel
theorem dX7_count_53 : decode cX7_count 53 = .ok (.getfield 19, 3) := by decide +kernel
theorem dX7_count_56 : decode cX7_count 56 = .ok (.getfield 91, 3) := by decide +kernel
theorem dX7_count_59 : decode cX7_count 59 = .ok (.ireturn, 1) := by decide +kernel
theorem dX7_count_60 : decode cX7_count 60 = .ok (.aload_n 0, 1) := by decide +kernel
theorem dX7_count_61 : decode cX7_count 61 = .ok (.getfield 26, 3) := by decide +kernel
theorem dX7_count_64 : decode cX7_count 64 = .ok (.getfield 128, 3) := by decide +kernel
theorem dX7_count_67 : decode cX7_count 67 = .ok (.getfield 112, 3) := by decide +kernel
theorem dX7_count_70 : decode cX7_count 70 = .ok (.ireturn, 1) := by decide +kernel
theorem dX7_count_71 : decode cX7_count 71 = .ok (.aload_n 0, 1) := by decide +kernel
theorem dX7_count_72 : decode cX7_count 72 = .ok (.getfield 26, 3) := by decide +kernel
theorem dX7_count_75 : decode cX7_count 75 = .ok (.aload_n 0, 1) := by decide +kernel
theorem dX7_count_76 : decode cX7_count 76 = .ok (.getfield 19, 3) := by decide +kernel
theorem dX7_count_79 : decode cX7_count 79 = .ok (.getfield 91, 3) := by decide +kernel
theorem dX7_count_82 : decode cX7_count 82 = .ok (.invokevirtual 220, 3) := by decide +kernel
theorem dX7_count_85 : decode cX7_count 85 = .ok (.ireturn, 1) := by decide +kernel
theorem dX7_count_86 : decode cX7_count 86 = .ok (.aload_n 0, 1) := by decide +kernel
theorem dX7_count_87 : decode cX7_count 87 = .ok (.getfield 26, 3) := by decide +kernel
theorem dX7_count_90 : decode cX7_count 90 = .ok (.aload_n 0, 1) := by decide +kernel
theorem dX7_count_91 : decode cX7_count 91 = .ok (.getfield 19, 3) := by decide +kernel
theorem dX7_count_94 : decode cX7_count 94 = .ok (.getfield 91, 3) := by decide +kernel
theorem dX7_count_97 : decode cX7_count 97 = .ok (.invokevirtual 223, 3) := by decide +kernel
theorem dX7_count_100 : decode cX7_count 100 = .ok (.ireturn, 1) := by decide +kernel
theorem dX7_count_101 : decode cX7_count 101 = .ok (.aload_n 0, 1) := by decide +kernel
theorem dX7_count_102 : decode cX7_count 102 = .ok (.getfield 26, 3) := by decide +kernel
theorem dX7_count_105 : decode cX7_count 105 = .ok (.getfield 159, 3) := by decide +kernel
theorem dX7_count_108 : decode cX7_count 108 = .ok (.ireturn, 1) := by decide +kernel
theorem dX7_count_109 : decode cX7_count 109 = .ok (.aload_n 0, 1) := by decide +kernel
theorem dX7_count_110 : decode cX7_count 110 = .ok (.getfield 26, 3) := by decide +kernel
theorem dX7_count_113 : decode cX7_count 113 = .ok (.getfield 226, 3) := by decide +kernel
theorem dX7_count_116 : decode cX7_count 116 = .ok (.ireturn, 1) := by decide +kernel
theorem dX7_count_117 : decode cX7_count 117 = .ok (.aload_n 0, 1) := by decide +kernel
theorem dX7_count_118 : decode cX7_count 118 = .ok (.getfield 26, 3) := by decide +kernel
theorem dX7_count_121 : decode cX7_count 121 = .ok (.getfield 188, 3) := by decide +kernel
theorem dX7_count_124 : decode cX7_count 124 = .ok (.ireturn, 1) := by decide +kernel
theorem dX7_count_125 : decode cX7_count 125 = .ok (.aload_n 0, 1) := by decide +kernel
theorem dX7_count_126 : decode cX7_count 126 = .ok (.getfield 10, 3) := by decide +kernel
theorem dX7_count_129 : decode cX7_count 129 = .ok (.getfield 54, 3) := by decide +kernel
theorem dX7_count_132 : decode cX7_count 132 = .ok (.ireturn, 1) := by decide +kernel
theorem dX7_count_133 : decode cX7_count 133 = .ok (.aload_n 0, 1) := by decide +kernel
theorem dX7_count_134 : decode cX7_count 134 = .ok (.getfield 88, 3) := by decide +kernel
theorem dX7_count_137 : decode cX7_count 137 = .ok (.ireturn, 1) := by decide +kernel
theorem dX7_count_138 : decode cX7_count 138 = .ok (.bipush (-102), 2) := by decide +kernel
theorem dX7_count_140 : decode cX7_count 140 = .ok (.ireturn, 1) := by decide +kernel
set_option maxRecDepth 20000 in
theorem ggX7_digest_X7_withHook : GoodIn wsX7_digest wsX7_withHook := goodIn_r _ [14, 7, 15, 16, 17, 13, 18, 4, 19, 20, 2, 21, 22, 6, 23, 24, 25, 26, 3, 27, 28, 29, 30, 31, 32, 33, 34, 35, 36, 37, 38, 39, 40, 41, 42, 43, 44, 45, 46, 47, 48, 49, 50, 51, 52, 53, 54, 55, 56, 57, 58, 59, 60, 61, 62, 63, 64, 65, 66, 67, 68, 69, 70, 71, 72, 73, 74, 75, 76, 77, 78, 79, 80, 81, 82, 83, 84, 85, 86, 192, 193, 194, 195, 196, 197, 198, 199, 200, 205, 206, 207, 208, 209, 210, 211, 212, 201, 202, 203, 204, 213, 214, 215, 216] (by decide +kernel) (by decide +kernel)
set_option maxRecDepth 20000 in
theorem gX7_digest_X7_withHook : GoodIn wsX7_digest (wsV RX7 231 RX7 yX7_withHook wsX7_withHook) := goodIn_app (goodIn_of _ (by decide +kernel)) ggX7_digest_X7_withHook
set_option maxRecDepth 20000 in
theorem ggX7_digest_X7_belt : GoodIn wsX7_digest wsX7_belt := goodIn_r _ [90, 4, 5, 6, 91, 92, 93, 30, 94, 32, 38, 95, 96, 97, 98, 33, 80, 81, 13, 82, 53, 192, 193, 194, 195, 196, 197, 198, 199, 200, 205, 206, 207, 208, 209, 210, 211, 212, 213, 214, 215, 216] (by decide +kernel) (by decide +kernel)
set_option maxRecDepth 20000 in
theorem gX7_digest_X7_belt : GoodIn wsX7_digest (wsV RX7 237 RX7 yX7_belt wsX7_belt) := goodIn_app (goodIn_of _ (by decide +kernel)) ggX7_digest_X7_belt
set_option maxRecDepth 20000 in
theorem ggX7_digest_X7_withHanging : GoodIn wsX7_digest wsX7_withHanging := goodIn_r _ [102, 7, 2, 3, 103, 104, 105, 13, 106, 107, 108, 4, 109, 110, 111, 112, 113, 114, 115, 116, 117, 118, 119, 120, 121, 23, 24, 25, 26, 122, 123, 124, 125, 126, 127, 128, 129, 130, 131, 132, 133, 134, 135, 136, 74, 75, 76, 137, 138, 139, 140, 141, 142, 143, 144, 145, 146, 147, 148, 149, 150, 151, 152, 153, 154, 155, 156, 157, 158, 159, 160, 161, 162, 163, 164, 165, 192, 193, 194, 195, 196, 197, 198, 199, 200, 201, 202, 203, 204, 219, 220, 221, 222, 205, 206, 207, 208, 209, 210, 211, 212, 223, 224, 225, 226, 227] (by decide +kernel) (by decide +kernel)
set_option maxRecDepth 20000 in
theorem gX7_digest_X7_withHanging : GoodIn wsX7_digest (wsV RX7 239 RX7 yX7_withHanging wsX7_withHanging) := goodIn_app (goodIn_of _ (by decide +kernel)) ggX7_digest_X7_withHanging
set_option maxRecDepth 20000 in
theorem ggX7_digest_X1_codeAt : GoodIn wsX7_digest wsX1_codeAt := goodIn_r _ [170, 171, 172, 217, 218] (by decide +kernel) (by decide +kernel)
set_option maxRecDepth 20000 in
theorem gX7_digest_X1_codeAt : GoodIn wsX7_digest (wsV RX7 243 RX1 yX1_codeAt wsX1_codeAt) := goodIn_app (goodIn_of _ (by decide +kernel)) ggX7_digest_X1_codeAt
set_option maxRecDepth 20000 in
theorem ggX7_digest_X7_count : GoodIn wsX7_digest wsX7_count := goodIn_r _ [176, 2, 3, 4, 5, 6, 177, 178, 179, 8, 9, 180, 181, 182, 183, 119, 184, 185, 186, 187, 188, 189, 190, 121, 191, 28, 29, 30, 31, 32, 33, 192, 193, 194, 195, 196, 197, 198, 199, 200, 201, 202, 203, 204, 205, 206, 207, 208, 209, 210, 211, 212, 213, 214, 215, 216, 217, 218] (by decide +kernel) (by decide +kernel)
set_option maxRecDepth 20000 in
theorem gX7_digest_X7_count : GoodIn wsX7_digest (wsV RX7 246 RX7 yX7_count wsX7_count) := goodIn_app (goodIn_of _ (by decide +kernel)) ggX7_digest_X7_count
theorem dX7_digest_0 : decode cX7_digest 0 = .ok (.ldc2_w 229, 3) := by decide +kernel
theorem dX7_digest_3 : decode cX7_digest 3 = .ok (.lstore_n 1, 1) := by decide +kernel
theorem dX7_digest_4 : decode cX7_digest 4 = .ok (.iconst 0, 1) := by decide +kernel
theorem dX7_digest_5 : decode cX7_digest 5 = .ok (.istore_n 3, 1) := by decide +kernel
theorem dX7_digest_6 : decode cX7_digest 6 = .ok (.iload_n 3, 1) := by decide +kernel
theorem dX7_digest_7 : decode cX7_digest 7 = .ok (.aload_n 0, 1) := by decide +kernel
theorem dX7_digest_8 : decode cX7_digest 8 = .ok (.getfield 19, 3) := by decide +kernel
theorem dX7_digest_11 : decode cX7_digest 11 = .ok (.getfield 91, 3) := by decide +kernel
theorem dX7_digest_14 : decode cX7_digest 14 = .ok (.if_icmp .ge 16, 3) := by decide +kernel
theorem dX7_digest_17 : decode cX7_digest 17 = .ok (.aload_n 0, 1) := by decide +kernel
theorem dX7_digest_18 : decode cX7_digest 18 = .ok (.lload_n 1, 1) := by decide +kernel
theorem dX7_digest_19 : decode cX7_digest 19 = .ok (.iload_n 3, 1) := by decide +kernel
theorem dX7_digest_20 : decode cX7_digest 20 = .ok (.invokevirtual 231, 3) := by decide +kernel
theorem dX7_digest_23 : decode cX7_digest 23 = .ok (.lstore_n 1, 1) := by decide +kernel
theorem dX7_digest_24 : decode cX7_digest 24 = .ok (.iinc 3 1, 3) := by decide +kernel
theorem dX7_digest_27 : decode cX7_digest 27 = .ok (.goto (-21), 3) := by decide +kernel
theorem dX7_digest_30 : decode cX7_digest 30 = .ok (.iconst 0, 1) := by decide +kernel
theorem dX7_digest_31 : decode cX7_digest 31 = .ok (.istore_n 3, 1) := by decide +kernel
theorem dX7_digest_32 : decode cX7_digest 32 = .ok (.iload_n 3, 1) := by decide +kernel
theorem dX7_digest_33 : decode cX7_digest 33 = .ok (.aload_n 0, 1) := by decide +kernel
theorem dX7_digest_34 : decode cX7_digest 34 = .ok (.getfield 26, 3) := by decide +kernel
theorem dX7_digest_37 : decode cX7_digest 37 = .ok (.getfield 128, 3) := by decide +kernel
theorem dX7_digest_40 : decode cX7_digest 40 = .ok (.getfield 112, 3) := by decide +kernel
theorem dX7_digest_43 : decode cX7_digest 43 = .ok (.if_icmp .ge 39, 3) := by decide +kernel
theorem dX7_digest_46 : decode cX7_digest 46 = .ok (.iconst 0, 1) := by decide +kernel
theorem dX7_digest_47 : decode cX7_digest 47 = .ok (.istore 4, 2) := by decide +kernel
theorem dX7_digest_49 : decode cX7_digest 49 = .ok (.iload 4, 2) := by decide +kernel
theorem dX7_digest_51 : decode cX7_digest 51 = .ok (.iconst 2, 1) := by decide +kernel
theorem dX7_digest_52 : decode cX7_digest 52 = .ok (.if_icmp .gt 24, 3) := by decide +kernel
theorem dX7_digest_55 : decode cX7_digest 55 = .ok (.ldc2_w 235, 3) := by decide +kernel
theorem dX7_digest_58 : decode cX7_digest 58 = .ok (.lload_n 1, 1) := by decide +kernel
theorem dX7_digest_59 : decode cX7_digest 59 = .ok (.lmul, 1) := by decide +kernel
theorem dX7_digest_60 : decode cX7_digest 60 = .ok (.aload_n 0, 1) := by decide +kernel
theorem dX7_digest_61 : decode cX7_digest 61 = .ok (.iload_n 3, 1) := by decide +kernel
theorem dX7_digest_62 : decode cX7_digest 62 = .ok (.iload 4, 2) := by decide +kernel
theorem dX7_digest_64 : decode cX7_digest 64 = .ok (.invokevirtual 237, 3) := by decide +kernel
theorem dX7_digest_67 : decode cX7_digest 67 = .ok (.i2l, 1) := by decide +kernel
theorem dX7_digest_68 : decode cX7_digest 68 = .ok (.ladd, 1) := by decide +kernel
theorem dX7_digest_69 : decode cX7_digest 69 = .ok (.lstore_n 1, 1) := by decide +kernel
theorem dX7_digest_70 : decode cX7_digest 70 = .ok (.iinc 4 1, 3) := by decide +kernel
theorem dX7_digest_73 : decode cX7_digest 73 = .ok (.goto (-24), 3) := by decide +kernel
theorem dX7_digest_76 : decode cX7_digest 76 = .ok (.iinc 3 1, 3) := by decide +kernel
theorem dX7_digest_79 : decode cX7_digest 79 = .ok (.goto (-47), 3) := by decide +kernel
theorem dX7_digest_82 : decode cX7_digest 82 = .ok (.aload_n 0, 1) := by decide +kernel
theorem dX7_digest_83 : decode cX7_digest 83 = .ok (.getfield 19, 3) := by decide +kernel
theorem dX7_digest_86 : decode cX7_digest 86 = .ok (.getfield 91, 3) := by decide +kernel
theorem dX7_digest_89 : decode cX7_digest 89 = .ok (.ifCond .le 9, 3) := by decide +kernel
theorem dX7_digest_92 : decode cX7_digest 92 = .ok (.aload_n 0, 1) := by decide +kernel
theorem dX7_digest_93 : decode cX7_digest 93 = .ok (.lload_n 1, 1) := by decide +kernel
theorem dX7_digest_94 : decode cX7_digest 94 = .ok (.invokevirtual 239, 3) := by decide +kernel
theorem dX7_digest_97 : decode cX7_digest 97 = .ok (.lstore_n 1, 1) := by decide +kernel
theorem dX7_digest_98 : decode cX7_digest 98 = .ok (.iconst 0, 1) := by decide +kernel
theorem dX7_digest_99 : decode cX7_digest 99 = .ok (.istore_n 3, 1) := by decide +kernel
theorem dX7_digest_100 : decode cX7_digest 100 = .ok (.iload_n 3, 1) := by decide +kernel
theorem dX7_digest_101 : decode cX7_digest 101 = .ok (.aload_n 0, 1) := by decide +kernel
theorem dX7_digest_102 : decode cX7_digest 102 = .ok (.getfield 10, 3) := by decide +kernel
theorem dX7_digest_105 : decode cX7_digest 105 = .ok (.getfield 54, 3) := by decide +kernel
theorem dX7_digest_108 : decode cX7_digest 108 = .ok (.if_icmp .ge 25, 3) := by decide +kernel
theorem dX7_digest_111 : decode cX7_digest 111 = .ok (.ldc2_w 235, 3) := by decide +kernel
theorem dX7_digest_114 : decode cX7_digest 114 = .ok (.lload_n 1, 1) := by decide +kernel
theorem dX7_digest_115 : decode cX7_digest 115 = .ok (.lmul, 1) := by decide +kernel
theorem dX7_digest_116 : decode cX7_digest 116 = .ok (.aload_n 0, 1) := by decide +kernel
theorem dX7_digest_117 : decode cX7_digest 117 = .ok (.getfield 10, 3) := by decide +kernel
theorem dX7_digest_120 : decode cX7_digest 120 = .ok (.iload_n 3, 1) := by decide +kernel
theorem dX7_digest_121 : decode cX7_digest 121 = .ok (.invokevirtual 243, 3) := by decide +kernel
theorem dX7_digest_124 : decode cX7_digest 124 = .ok (.i2l, 1) := by decide +kernel
theorem dX7_digest_125 : decode cX7_digest 125 = .ok (.ladd, 1) := by decide +kernel
theorem dX7_digest_126 : decode cX7_digest 126 = .ok (.lstore_n 1, 1) := by decide +kernel
theorem dX7_digest_127 : decode cX7_digest 127 = .ok (.iinc 3 1, 3) := by decide +kernel
theorem dX7_digest_130 : decode cX7_digest 130 = .ok (.goto (-30), 3) := by decide +kernel
theorem dX7_digest_133 : decode cX7_digest 133 = .ok (.iconst 0, 1) := by decide +kernel
theorem dX7_digest_134 : decode cX7_digest 134 = .ok (.istore_n 3, 1) := by decide +kernel
theorem dX7_digest_135 : decode cX7_digest 135 = .ok (.iload_n 3, 1) := by decide +kernel
theorem dX7_digest_136 : decode cX7_digest 136 = .ok (.bipush 8, 2) := by decide +kernel
theorem dX7_digest_138 : decode cX7_digest 138 = .ok (.if_icmp .gt 22, 3) := by decide +kernel
theorem dX7_digest_141 : decode cX7_digest 141 = .ok (.ldc2_w 235, 3) := by decide +kernel
theorem dX7_digest_144 : decode cX7_digest 144 = .ok (.lload_n 1, 1) := by decide +kernel
theorem dX7_digest_145 : decode cX7_digest 145 = .ok (.lmul, 1) := by decide +kernel
theorem dX7_digest_146 : decode cX7_digest 146 = .ok (.aload_n 0, 1) := by decide +kernel
theorem dX7_digest_147 : decode cX7_digest 147 = .ok (.iload_n 3, 1) := by decide +kernel
theorem dX7_digest_148 : decode cX7_digest 148 = .ok (.invokevirtual 246, 3) := by decide +kernel
theorem dX7_digest_151 : decode cX7_digest 151 = .ok (.i2l, 1) := by decide +kernel
theorem dX7_digest_152 : decode cX7_digest 152 = .ok (.ladd, 1) := by decide +kernel
theorem dX7_digest_153 : decode cX7_digest 153 = .ok (.lstore_n 1, 1) := by decide +kernel
theorem dX7_digest_154 : decode cX7_digest 154 = .ok (.iinc 3 1, 3) := by decide +kernel
theorem dX7_digest_157 : decode cX7_digest 157 = .ok (.goto (-22), 3) := by decide +kernel
theorem dX7_digest_160 : decode cX7_digest 160 = .ok (.lload_n 1, 1) := by decide +kernel
theorem dX7_digest_161 : decode cX7_digest 161 = .ok (.lreturn, 1) := by decide +kernel
set_option maxRecDepth 20000 in
theorem ggX7_withHook_X7_hook : GoodIn wsX7_withHook wsX7_hook := goodIn_r _ [6, 7, 8, 9, 10, 11, 12, 13, 14, 15, 16, 5, 17, 18, 19, 20, 21, 22, 23, 24, 25, 26, 27, 28, 29, 30, 31, 32, 33, 34, 35, 36, 37, 79, 80, 81, 82, 83, 84, 85, 86, 87, 88, 89, 90, 91, 92, 93, 94, 95, 96, 97, 98, 99, 100, 101, 102, 103] (by decide +kernel) (by decide +kernel)
set_option maxRecDepth 20000 in
theorem gX7_withHook_X7_hook : GoodIn wsX7_withHook (wsV RX7 249 RX7 yX7_hook wsX7_hook) := goodIn_app (goodIn_of _ (by decide +kernel)) ggX7_withHook_X7_hook
set_option maxRecDepth 20000 in
theorem ggX7_withHook_X7_odds : GoodIn wsX7_withHook wsX7_odds := goodIn_r _ [41, 10, 11, 18, 42, 43, 5, 44, 45, 14, 15, 16, 17, 46, 47, 48, 49, 50, 51, 52, 53, 54, 55, 56, 57, 58, 7, 8, 13, 12, 59, 60, 61, 62, 63, 64, 65, 66, 67, 68, 69, 70, 71, 72, 73, 74, 75, 76, 77, 78, 79, 80, 81, 82, 83, 84, 85, 86, 87, 96, 97, 98, 99, 88, 89, 90, 91, 92, 93, 94, 95, 100, 101, 102, 103] (by decide +kernel) (by decide +kernel)
set_option maxRecDepth 20000 in
theorem gX7_withHook_X7_odds : GoodIn wsX7_withHook (wsV RX7 252 RX7 yX7_odds wsX7_odds) := goodIn_app (goodIn_of _ (by decide +kernel)) ggX7_withHook_X7_odds
theorem dX7_withHook_0 : decode cX7_withHook 0 = .ok (.lload_n 1, 1) := by decide +kernel
theorem dX7_withHook_1 : decode cX7_withHook 1 = .ok (.lstore 4, 2) := by decide +kernel
theorem dX7_withHook_3 : decode cX7_withHook 3 = .ok (.iconst 0, 1) := by decide +kernel
theorem dX7_withHook_4 : decode cX7_withHook 4 = .ok (.istore 6, 2) := by decide +kernel
theorem dX7_withHook_6 : decode cX7_withHook 6 = .ok (.iload 6, 2) := by decide +kernel
theorem dX7_withHook_8 : decode cX7_withHook 8 = .ok (.bipush 6, 2) := by decide +kernel
theorem dX7_withHook_10 : decode cX7_withHook 10 = .ok (.if_icmp .gt 26, 3) := by decide +kernel
theorem dX7_withHook_13 : decode cX7_withHook 13 = .ok (.ldc2_w 235, 3) := by decide +kernel
theorem dX7_withHook_16 : decode cX7_withHook 16 = .ok (.lload 4, 2) := by decide +kernel
theorem dX7_withHook_18 : decode cX7_withHook 18 = .ok (.lmul, 1) := by decide +kernel
theorem dX7_withHook_19 : decode cX7_withHook 19 = .ok (.aload_n 0, 1) := by decide +kernel
theorem dX7_withHook_20 : decode cX7_withHook 20 = .ok (.iload_n 3, 1) := by decide +kernel
theorem dX7_withHook_21 : decode cX7_withHook 21 = .ok (.iload 6, 2) := by decide +kernel
theorem dX7_withHook_23 : decode cX7_withHook 23 = .ok (.invokevirtual 249, 3) := by decide +kernel
theorem dX7_withHook_26 : decode cX7_withHook 26 = .ok (.i2l, 1) := by decide +kernel
theorem dX7_withHook_27 : decode cX7_withHook 27 = .ok (.ladd, 1) := by decide +kernel
theorem dX7_withHook_28 : decode cX7_withHook 28 = .ok (.lstore 4, 2) := by decide +kernel
theorem dX7_withHook_30 : decode cX7_withHook 30 = .ok (.iinc 6 1, 3) := by decide +kernel
theorem dX7_withHook_33 : decode cX7_withHook 33 = .ok (.goto (-27), 3) := by decide +kernel
theorem dX7_withHook_36 : decode cX7_withHook 36 = .ok (.iconst 0, 1) := by decide +kernel
theorem dX7_withHook_37 : decode cX7_withHook 37 = .ok (.istore 6, 2) := by decide +kernel
theorem dX7_withHook_39 : decode cX7_withHook 39 = .ok (.iload 6, 2) := by decide +kernel
theorem dX7_withHook_41 : decode cX7_withHook 41 = .ok (.iconst 5, 1) := by decide +kernel
theorem dX7_withHook_42 : decode cX7_withHook 42 = .ok (.if_icmp .gt 27, 3) := by decide +kernel
theorem dX7_withHook_45 : decode cX7_withHook 45 = .ok (.ldc2_w 235, 3) := by decide +kernel
theorem dX7_withHook_48 : decode cX7_withHook 48 = .ok (.lload 4, 2) := by decide +kernel
theorem dX7_withHook_50 : decode cX7_withHook 50 = .ok (.lmul, 1) := by decide +kernel
theorem dX7_withHook_51 : decode cX7_withHook 51 = .ok (.aload_n 0, 1) := by decide +kernel
theorem dX7_withHook_52 : decode cX7_withHook 52 = .ok (.iconst 0, 1) := by decide +kernel
theorem dX7_withHook_53 : decode cX7_withHook 53 = .ok (.iload_n 3, 1) := by decide +kernel
theorem dX7_withHook_54 : decode cX7_withHook 54 = .ok (.iload 6, 2) := by decide +kernel
theorem dX7_withHook_56 : decode cX7_withHook 56 = .ok (.invokevirtual 252, 3) := by decide +kernel
theorem dX7_withHook_59 : decode cX7_withHook 59 = .ok (.i2l, 1) := by decide +kernel
theorem dX7_withHook_60 : decode cX7_withHook 60 = .ok (.ladd, 1) := by decide +kernel
theorem dX7_withHook_61 : decode cX7_withHook 61 = .ok (.lstore 4, 2) := by decide +kernel
theorem dX7_withHook_63 : decode cX7_withHook 63 = .ok (.iinc 6 1, 3) := by decide +kernel
theorem dX7_withHook_66 : decode cX7_withHook 66 = .ok (.goto (-27), 3) := by decide +kernel
theorem dX7_withHook_69 : decode cX7_withHook 69 = .ok (.ldc2_w 235, 3) := by decide +kernel
theorem dX7_withHook_72 : decode cX7_withHook 72 = .ok (.lload 4, 2) := by decide +kernel
theorem dX7_withHook_74 : decode cX7_withHook 74 = .ok (.lmul, 1) := by decide +kernel
theorem dX7_withHook_75 : decode cX7_withHook 75 = .ok (.aload_n 0, 1) := by decide +kernel
theorem dX7_withHook_76 : decode cX7_withHook 76 = .ok (.iconst 3, 1) := by decide +kernel
theorem dX7_withHook_77 : decode cX7_withHook 77 = .ok (.iload_n 3, 1) := by decide +kernel
theorem dX7_withHook_78 : decode cX7_withHook 78 = .ok (.iconst 3, 1) := by decide +kernel
theorem dX7_withHook_79 : decode cX7_withHook 79 = .ok (.invokevirtual 252, 3) := by decide +kernel
theorem dX7_withHook_82 : decode cX7_withHook 82 = .ok (.i2l, 1) := by decide +kernel
theorem dX7_withHook_83 : decode cX7_withHook 83 = .ok (.ladd, 1) := by decide +kernel
theorem dX7_withHook_84 : decode cX7_withHook 84 = .ok (.lreturn, 1) := by decide +kernel
set_option maxRecDepth 20000 in
theorem ggX7_withHanging_X7_hanging : GoodIn wsX7_withHanging wsX7_hanging := goodIn_r _ [8, 2, 3, 9, 10, 11, 12, 13, 14, 15, 16, 17, 18, 19, 20, 21, 22, 23, 24, 25, 26, 27, 7, 28, 76, 77, 78, 79, 80, 81, 82, 83, 84, 85, 86, 87, 88, 89, 90, 91, 92, 93, 94, 95, 96, 97, 98, 99, 100] (by decide +kernel) (by decide +kernel)
set_option maxRecDepth 20000 in
theorem gX7_withHanging_X7_hanging : GoodIn wsX7_withHanging (wsV RX7 255 RX7 yX7_hanging wsX7_hanging) := goodIn_app (goodIn_of _ (by decide +kernel)) ggX7_withHanging_X7_hanging
set_option maxRecDepth 20000 in
theorem ggX7_withHanging_X7_hung : GoodIn wsX7_withHanging wsX7_hung := goodIn_r _ [32, 2, 3, 33, 11, 34, 35, 36, 37, 38, 39, 40, 41, 42, 43, 44, 45, 46, 47, 48, 49, 50, 51, 52, 53, 54, 55, 56, 57, 58, 59, 60, 61, 62, 63, 64, 65, 66, 67, 68, 69, 70, 76, 77, 78, 79, 80, 81, 82, 83, 84, 85, 86, 87, 88, 101, 102, 103, 104, 105, 93, 94, 95, 96, 97, 98, 99, 100] (by decide +kernel) (by decide +kernel)
set_option maxRecDepth 20000 in
theorem gX7_withHanging_X7_hung : GoodIn wsX7_withHanging (wsV RX7 258 RX7 yX7_hung wsX7_hung) := goodIn_app (goodIn_of _ (by decide +kernel)) ggX7_withHanging_X7_hung
set_option maxRecDepth 20000 in
theorem ggX7_withHanging_X7_where : GoodIn wsX7_withHanging wsX7_where := goodIn_r _ [74, 33, 11, 2, 3, 75, 25, 26, 27, 7, 28, 35, 36, 37, 38, 39, 40, 41, 42, 43, 44, 45, 46, 47, 48, 49, 50, 51, 52, 53, 54, 55, 56, 57, 58, 59, 60, 61, 62, 63, 64, 65, 66, 67, 68, 69, 70, 76, 77, 78, 79, 80, 81, 82, 83, 84, 85, 86, 87, 88, 101, 102, 103, 104, 105, 93, 94, 95, 96, 97, 98, 99, 100] (by decide +kernel) (by decide +kernel)
set_option maxRecDepth 20000 in
theorem gX7_withHanging_X7_where : GoodIn wsX7_withHanging (wsV RX7 261 RX7 yX7_where wsX7_where) := goodIn_app (goodIn_of _ (by decide +kernel)) ggX7_withHanging_X7_where
theorem dX7_withHanging_0 : decode cX7_withHanging 0 = .ok (.ldc2_w 235, 3) := by decide +kernel
theorem dX7_withHanging_3 : decode cX7_withHanging 3 = .ok (.lload_n 1, 1) := by decide +kernel
theorem dX7_withHanging_4 : decode cX7_withHanging 4 = .ok (.lmul, 1) := by decide +kernel
theorem dX7_withHanging_5 : decode cX7_withHanging 5 = .ok (.aload_n 0, 1) := by decide +kernel
theorem dX7_withHanging_6 : decode cX7_withHanging 6 = .ok (.iconst 0, 1) := by decide +kernel
theorem dX7_withHanging_7 : decode cX7_withHanging 7 = .ok (.invokevirtual 255, 3) := by decide +kernel
theorem dX7_withHanging_10 : decode cX7_withHanging 10 = .ok (.i2l, 1) := by decide +kernel
theorem dX7_withHanging_11 : decode cX7_withHanging 11 = .ok (.ladd, 1) := by decide +kernel
theorem dX7_withHanging_12 : decode cX7_withHanging 12 = .ok (.lstore_n 3, 1) := by decide +kernel
theorem dX7_withHanging_13 : decode cX7_withHanging 13 = .ok (.ldc2_w 235, 3) := by decide +kernel
theorem dX7_withHanging_16 : decode cX7_withHanging 16 = .ok (.lload_n 3, 1) := by decide +kernel
theorem dX7_withHanging_17 : decode cX7_withHanging 17 = .ok (.lmul, 1) := by decide +kernel
theorem dX7_withHanging_18 : decode cX7_withHanging 18 = .ok (.aload_n 0, 1) := by decide +kernel
theorem dX7_withHanging_19 : decode cX7_withHanging 19 = .ok (.iconst 1, 1) := by decide +kernel
theorem dX7_withHanging_20 : decode cX7_withHanging 20 = .ok (.invokevirtual 255, 3) := by decide +kernel
theorem dX7_withHanging_23 : decode cX7_withHanging 23 = .ok (.i2l, 1) := by decide +kernel
theorem dX7_withHanging_24 : decode cX7_withHanging 24 = .ok (.ladd, 1) := by decide +kernel
theorem dX7_withHanging_25 : decode cX7_withHanging 25 = .ok (.lstore_n 3, 1) := by decide +kernel
theorem dX7_withHanging_26 : decode cX7_withHanging 26 = .ok (.bipush 10, 2) := by decide +kernel
theorem dX7_withHanging_28 : decode cX7_withHanging 28 = .ok (.istore 5, 2) := by decide +kernel
theorem dX7_withHanging_30 : decode cX7_withHanging 30 = .ok (.iload 5, 2) := by decide +kernel
theorem dX7_withHanging_32 : decode cX7_withHanging 32 = .ok (.bipush 16, 2) := by decide +kernel
theorem dX7_withHanging_34 : decode cX7_withHanging 34 = .ok (.if_icmp .ge 23, 3) := by decide +kernel
theorem dX7_withHanging_37 : decode cX7_withHanging 37 = .ok (.ldc2_w 235, 3) := by decide +kernel
theorem dX7_withHanging_40 : decode cX7_withHanging 40 = .ok (.lload_n 3, 1) := by decide +kernel
theorem dX7_withHanging_41 : decode cX7_withHanging 41 = .ok (.lmul, 1) := by decide +kernel
theorem dX7_withHanging_42 : decode cX7_withHanging 42 = .ok (.aload_n 0, 1) := by decide +kernel
theorem dX7_withHanging_43 : decode cX7_withHanging 43 = .ok (.iload 5, 2) := by decide +kernel
theorem dX7_withHanging_45 : decode cX7_withHanging 45 = .ok (.invokevirtual 255, 3) := by decide +kernel
theorem dX7_withHanging_48 : decode cX7_withHanging 48 = .ok (.i2l, 1) := by decide +kernel
theorem dX7_withHanging_49 : decode cX7_withHanging 49 = .ok (.ladd, 1) := by decide +kernel
theorem dX7_withHanging_50 : decode cX7_withHanging 50 = .ok (.lstore_n 3, 1) := by decide +kernel
theorem dX7_withHanging_51 : decode cX7_withHanging 51 = .ok (.iinc 5 1, 3) := by decide +kernel
theorem dX7_withHanging_54 : decode cX7_withHanging 54 = .ok (.goto (-24), 3) := by decide +kernel
theorem dX7_withHanging_57 : decode cX7_withHanging 57 = .ok (.ldc2_w 235, 3) := by decide +kernel
theorem dX7_withHanging_60 : decode cX7_withHanging 60 = .ok (.lload_n 3, 1) := by decide +kernel
theorem dX7_withHanging_61 : decode cX7_withHanging 61 = .ok (.lmul, 1) := by decide +kernel
theorem dX7_withHanging_62 : decode cX7_withHanging 62 = .ok (.aload_n 0, 1) := by decide +kernel
theorem dX7_withHanging_63 : decode cX7_withHanging 63 = .ok (.invokevirtual 258, 3) := by decide +kernel
theorem dX7_withHanging_66 : decode cX7_withHanging 66 = .ok (.i2l, 1) := by decide +kernel
theorem dX7_withHanging_67 : decode cX7_withHanging 67 = .ok (.ladd, 1) := by decide +kernel
theorem dX7_withHanging_68 : decode cX7_withHanging 68 = .ok (.lstore_n 3, 1) := by decide +kernel
theorem dX7_withHanging_69 : decode cX7_withHanging 69 = .ok (.iconst 0, 1) := by decide +kernel
theorem dX7_withHanging_70 : decode cX7_withHanging 70 = .ok (.istore 5, 2) := by decide +kernel
theorem dX7_withHanging_72 : decode cX7_withHanging 72 = .ok (.iload 5, 2) := by decide +kernel
theorem dX7_withHanging_74 : decode cX7_withHanging 74 = .ok (.aload_n 0, 1) := by decide +kernel
theorem dX7_withHanging_75 : decode cX7_withHanging 75 = .ok (.getfield 19, 3) := by decide +kernel
theorem dX7_withHanging_78 : decode cX7_withHanging 78 = .ok (.getfield 91, 3) := by decide +kernel
theorem dX7_withHanging_81 : decode cX7_withHanging 81 = .ok (.if_icmp .ge 23, 3) := by decide +kernel
theorem dX7_withHanging_84 : decode cX7_withHanging 84 = .ok (.ldc2_w 235, 3) := by decide +kernel
theorem dX7_withHanging_87 : decode cX7_withHanging 87 = .ok (.lload_n 3, 1) := by decide +kernel
theorem dX7_withHanging_88 : decode cX7_withHanging 88 = .ok (.lmul, 1) := by decide +kernel
theorem dX7_withHanging_89 : decode cX7_withHanging 89 = .ok (.aload_n 0, 1) := by decide +kernel
theorem dX7_withHanging_90 : decode cX7_withHanging 90 = .ok (.iload 5, 2) := by decide +kernel
theorem dX7_withHanging_92 : decode cX7_withHanging 92 = .ok (.invokevirtual 261, 3) := by decide +kernel
theorem dX7_withHanging_95 : decode cX7_withHanging 95 = .ok (.i2l, 1) := by decide +kernel
theorem dX7_withHanging_96 : decode cX7_withHanging 96 = .ok (.ladd, 1) := by decide +kernel
theorem dX7_withHanging_97 : decode cX7_withHanging 97 = .ok (.lstore_n 3, 1) := by decide +kernel
theorem dX7_withHanging_98 : decode cX7_withHanging 98 = .ok (.iinc 5 1, 3) := by decide +kernel
theorem dX7_withHanging_101 : decode cX7_withHanging 101 = .ok (.goto (-29), 3) := by decide +kernel
theorem dX7_withHanging_104 : decode cX7_withHanging 104 = .ok (.lload_n 3, 1) := by decide +kernel
theorem dX7_withHanging_105 : decode cX7_withHanging 105 = .ok (.lreturn, 1) := by decide +kernel
theorem dX7_isKnown_0 : decode cX7_isKnown 0 = .ok (.iload_n 1, 1) := by decide +kernel
theorem dX7_isKnown_1 : decode cX7_isKnown 1 = .ok (.ifCond .lt 18, 3) := by decide +kernel
theorem dX7_isKnown_4 : decode cX7_isKnown 4 = .ok (.iload_n 1, 1) := by decide +kernel
theorem dX7_isKnown_5 : decode cX7_isKnown 5 = .ok (.aload_n 0, 1) := by decide +kernel
theorem dX7_isKnown_6 : decode cX7_isKnown 6 = .ok (.getfield 19, 3) := by decide +kernel
theorem dX7_isKnown_9 : decode cX7_isKnown 9 = .ok (.getfield 91, 3) := by decide +kernel
theorem dX7_isKnown_12 : decode cX7_isKnown 12 = .ok (.if_icmp .ge 7, 3) := by decide +kernel
theorem dX7_isKnown_15 : decode cX7_isKnown 15 = .ok (.iconst 1, 1) := by decide +kernel
theorem dX7_isKnown_16 : decode cX7_isKnown 16 = .ok (.goto 4, 3) := by decide +kernel
theorem dX7_isKnown_19 : decode cX7_isKnown 19 = .ok (.iconst 0, 1) := by decide +kernel
theorem dX7_isKnown_20 : decode cX7_isKnown 20 = .ok (.ireturn, 1) := by decide +kernel
set_option maxRecDepth 20000 in
theorem ggX7_isFull_X7_isKnown : GoodIn wsX7_isFull wsX7_isKnown := goodIn_r _ [10, 4, 11, 12, 13, 14, 15, 16, 17, 18, 19, 20, 33, 34, 35, 36] (by decide +kernel) (by decide +kernel)
set_option maxRecDepth 20000 in
theorem gX7_isFull_X7_isKnown : GoodIn wsX7_isFull (wsV RX7 94 RX7 yX7_isKnown wsX7_isKnown) := goodIn_app (goodIn_of _ (by decide +kernel)) ggX7_isFull_X7_isKnown
theorem dX7_isFull_0 : decode cX7_isFull 0 = .ok (.aload_n 0, 1) := by decide +kernel
theorem dX7_isFull_1 : decode cX7_isFull 1 = .ok (.iload_n 1, 1) := by decide +kernel
theorem dX7_isFull_2 : decode cX7_isFull 2 = .ok (.invokevirtual 94, 3) := by decide +kernel
theorem dX7_isFull_5 : decode cX7_isFull 5 = .ok (.ifCond .eq 31, 3) := by decide +kernel
theorem dX7_isFull_8 : decode cX7_isFull 8 = .ok (.aload_n 0, 1) := by decide +kernel
theorem dX7_isFull_9 : decode cX7_isFull 9 = .ok (.getfield 26, 3) := by decide +kernel
theorem dX7_isFull_12 : decode cX7_isFull 12 = .ok (.getfield 98, 3) := by decide +kernel
theorem dX7_isFull_15 : decode cX7_isFull 15 = .ok (.iload_n 1, 1) := by decide +kernel
theorem dX7_isFull_16 : decode cX7_isFull 16 = .ok (.aaload, 1) := by decide +kernel
theorem dX7_isFull_17 : decode cX7_isFull 17 = .ok (.getfield 112, 3) := by decide +kernel
theorem dX7_isFull_20 : decode cX7_isFull 20 = .ok (.aload_n 0, 1) := by decide +kernel
theorem dX7_isFull_21 : decode cX7_isFull 21 = .ok (.getfield 19, 3) := by decide +kernel
theorem dX7_isFull_24 : decode cX7_isFull 24 = .ok (.getfield 109, 3) := by decide +kernel
theorem dX7_isFull_27 : decode cX7_isFull 27 = .ok (.iload_n 1, 1) := by decide +kernel
theorem dX7_isFull_28 : decode cX7_isFull 28 = .ok (.iaload, 1) := by decide +kernel
theorem dX7_isFull_29 : decode cX7_isFull 29 = .ok (.if_icmp .lt 7, 3) := by decide +kernel
theorem dX7_isFull_32 : decode cX7_isFull 32 = .ok (.iconst 1, 1) := by decide +kernel
theorem dX7_isFull_33 : decode cX7_isFull 33 = .ok (.goto 4, 3) := by decide +kernel
theorem dX7_isFull_36 : decode cX7_isFull 36 = .ok (.iconst 0, 1) := by decide +kernel
theorem dX7_isFull_37 : decode cX7_isFull 37 = .ok (.ireturn, 1) := by decide +kernel
set_option maxRecDepth 20000 in
theorem ggX7_tenthsAt_X7_isKnown : GoodIn wsX7_tenthsAt wsX7_isKnown := goodIn_r _ [8, 1, 3, 34, 35, 36, 37, 38, 39, 40, 41, 42, 43, 44, 45, 46] (by decide +kernel) (by decide +kernel)
set_option maxRecDepth 20000 in
theorem gX7_tenthsAt_X7_isKnown : GoodIn wsX7_tenthsAt (wsV RX7 94 RX7 yX7_isKnown wsX7_isKnown) := goodIn_app (goodIn_of _ (by decide +kernel)) ggX7_tenthsAt_X7_isKnown
set_option maxRecDepth 20000 in
theorem ggX7_tenthsAt_X7_nextTo : GoodIn wsX7_tenthsAt wsX7_nextTo := goodIn_r _ [11] (by decide +kernel) (by decide +kernel)
set_option maxRecDepth 20000 in
theorem gX7_tenthsAt_X7_nextTo : GoodIn wsX7_tenthsAt (va_wsS RX7 155 yX7_nextTo wsX7_nextTo) := goodIn_app (goodIn_of _ (by decide +kernel)) ggX7_tenthsAt_X7_nextTo
set_option maxRecDepth 20000 in
theorem ggX7_tenthsAt_X7_isFull : GoodIn wsX7_tenthsAt wsX7_isFull := goodIn_r _ [15, 16, 17, 18, 1, 19, 4, 5, 6, 7, 8, 3, 34, 35, 36, 37, 38, 39, 40, 41, 42, 47, 48, 49, 50, 51, 52, 53, 54, 55, 56, 57, 58, 43, 44, 45, 46] (by decide +kernel) (by decide +kernel)
set_option maxRecDepth 20000 in
theorem gX7_tenthsAt_X7_isFull : GoodIn wsX7_tenthsAt (wsV RX7 148 RX7 yX7_isFull wsX7_isFull) := goodIn_app (goodIn_of _ (by decide +kernel)) ggX7_tenthsAt_X7_isFull
set_option maxRecDepth 20000 in
theorem ggX7_tenthsAt_X7_tenthsOf : GoodIn wsX7_tenthsAt wsX7_tenthsOf := goodIn_r _ [22, 23, 24, 25, 26, 27, 28, 29, 30, 31, 7, 32, 33] (by decide +kernel) (by decide +kernel)
set_option maxRecDepth 20000 in
theorem gX7_tenthsAt_X7_tenthsOf : GoodIn wsX7_tenthsAt (va_wsS RX7 264 yX7_tenthsOf wsX7_tenthsOf) := goodIn_app (goodIn_of _ (by decide +kernel)) ggX7_tenthsAt_X7_tenthsOf
theorem dX7_tenthsAt_0 : decode cX7_tenthsAt 0 = .ok (.aload_n 0, 1) := by decide +kernel
theorem dX7_tenthsAt_1 : decode cX7_tenthsAt 1 = .ok (.iload_n 2, 1) := by decide +kernel
theorem dX7_tenthsAt_2 : decode cX7_tenthsAt 2 = .ok (.invokevirtual 94, 3) := by decide +kernel
theorem dX7_tenthsAt_5 : decode cX7_tenthsAt 5 = .ok (.ifCond .ne 5, 3) := by decide +kernel
theorem dX7_tenthsAt_8 : decode cX7_tenthsAt 8 = .ok (.iconst 0, 1) := by decide +kernel
theorem dX7_tenthsAt_9 : decode cX7_tenthsAt 9 = .ok (.ireturn, 1) := by decide +kernel
theorem dX7_tenthsAt_10 : decode cX7_tenthsAt 10 = .ok (.iload_n 1, 1) := by decide +kernel
theorem dX7_tenthsAt_11 : decode cX7_tenthsAt 11 = .ok (.aload_n 0, 1) := by decide +kernel
theorem dX7_tenthsAt_12 : decode cX7_tenthsAt 12 = .ok (.getfield 19, 3) := by decide +kernel
theorem dX7_tenthsAt_15 : decode cX7_tenthsAt 15 = .ok (.getfield 106, 3) := by decide +kernel
theorem dX7_tenthsAt_18 : decode cX7_tenthsAt 18 = .ok (.iload_n 2, 1) := by decide +kernel
theorem dX7_tenthsAt_19 : decode cX7_tenthsAt 19 = .ok (.iaload, 1) := by decide +kernel
theorem dX7_tenthsAt_20 : decode cX7_tenthsAt 20 = .ok (.aload_n 0, 1) := by decide +kernel
theorem dX7_tenthsAt_21 : decode cX7_tenthsAt 21 = .ok (.iload_n 2, 1) := by decide +kernel
theorem dX7_tenthsAt_22 : decode cX7_tenthsAt 22 = .ok (.aload_n 0, 1) := by decide +kernel
theorem dX7_tenthsAt_23 : decode cX7_tenthsAt 23 = .ok (.getfield 19, 3) := by decide +kernel
theorem dX7_tenthsAt_26 : decode cX7_tenthsAt 26 = .ok (.getfield 91, 3) := by decide +kernel
theorem dX7_tenthsAt_29 : decode cX7_tenthsAt 29 = .ok (.invokestatic 155, 3) := by decide +kernel
theorem dX7_tenthsAt_32 : decode cX7_tenthsAt 32 = .ok (.invokevirtual 148, 3) := by decide +kernel
theorem dX7_tenthsAt_35 : decode cX7_tenthsAt 35 = .ok (.iload_n 3, 1) := by decide +kernel
theorem dX7_tenthsAt_36 : decode cX7_tenthsAt 36 = .ok (.invokestatic 264, 3) := by decide +kernel
theorem dX7_tenthsAt_39 : decode cX7_tenthsAt 39 = .ok (.ireturn, 1) := by decide +kernel
theorem dX7_isKind_0 : decode cX7_isKind 0 = .ok (.iload_n 0, 1) := by decide +kernel
theorem dX7_isKind_1 : decode cX7_isKind 1 = .ok (.ifCond .lt 15, 3) := by decide +kernel
theorem dX7_isKind_4 : decode cX7_isKind 4 = .ok (.iload_n 0, 1) := by decide +kernel
theorem dX7_isKind_5 : decode cX7_isKind 5 = .ok (.getstatic 268, 3) := by decide +kernel
theorem dX7_isKind_8 : decode cX7_isKind 8 = .ok (.arraylength, 1) := by decide +kernel
theorem dX7_isKind_9 : decode cX7_isKind 9 = .ok (.if_icmp .ge 7, 3) := by decide +kernel
theorem dX7_isKind_12 : decode cX7_isKind 12 = .ok (.iconst 1, 1) := by decide +kernel
theorem dX7_isKind_13 : decode cX7_isKind 13 = .ok (.goto 4, 3) := by decide +kernel
theorem dX7_isKind_16 : decode cX7_isKind 16 = .ok (.iconst 0, 1) := by decide +kernel
theorem dX7_isKind_17 : decode cX7_isKind 17 = .ok (.ireturn, 1) := by decide +kernel
theorem dX7_isA_0 : decode cX7_isA 0 = .ok (.iload_n 0, 1) := by decide +kernel
theorem dX7_isA_1 : decode cX7_isA 1 = .ok (.iload_n 1, 1) := by decide +kernel
theorem dX7_isA_2 : decode cX7_isA 2 = .ok (.if_icmp .eq 17, 3) := by decide +kernel
theorem dX7_isA_5 : decode cX7_isA 5 = .ok (.iload_n 1, 1) := by decide +kernel
theorem dX7_isA_6 : decode cX7_isA 6 = .ok (.ifCond .eq 13, 3) := by decide +kernel
theorem dX7_isA_9 : decode cX7_isA 9 = .ok (.iload_n 0, 1) := by decide +kernel
theorem dX7_isA_10 : decode cX7_isA 10 = .ok (.iconst 4, 1) := by decide +kernel
theorem dX7_isA_11 : decode cX7_isA 11 = .ok (.if_icmp .ne 12, 3) := by decide +kernel
theorem dX7_isA_14 : decode cX7_isA 14 = .ok (.iload_n 1, 1) := by decide +kernel
theorem dX7_isA_15 : decode cX7_isA 15 = .ok (.iconst 2, 1) := by decide +kernel
theorem dX7_isA_16 : decode cX7_isA 16 = .ok (.if_icmp .ne 7, 3) := by decide +kernel
theorem dX7_isA_19 : decode cX7_isA 19 = .ok (.iconst 1, 1) := by decide +kernel
theorem dX7_isA_20 : decode cX7_isA 20 = .ok (.goto 4, 3) := by decide +kernel
theorem dX7_isA_23 : decode cX7_isA 23 = .ok (.iconst 0, 1) := by decide +kernel
theorem dX7_isA_24 : decode cX7_isA 24 = .ok (.ireturn, 1) := by decide +kernel
theorem dX7_gripOf_0 : decode cX7_gripOf 0 = .ok (.iload_n 0, 1) := by decide +kernel
theorem dX7_gripOf_1 : decode cX7_gripOf 1 = .ok (.ifCond .lt 19, 3) := by decide +kernel
theorem dX7_gripOf_4 : decode cX7_gripOf 4 = .ok (.iload_n 0, 1) := by decide +kernel
theorem dX7_gripOf_5 : decode cX7_gripOf 5 = .ok (.getstatic 268, 3) := by decide +kernel
theorem dX7_gripOf_8 : decode cX7_gripOf 8 = .ok (.arraylength, 1) := by decide +kernel
theorem dX7_gripOf_9 : decode cX7_gripOf 9 = .ok (.if_icmp .ge 11, 3) := by decide +kernel
theorem dX7_gripOf_12 : decode cX7_gripOf 12 = .ok (.getstatic 268, 3) := by decide +kernel
theorem dX7_gripOf_15 : decode cX7_gripOf 15 = .ok (.iload_n 0, 1) := by decide +kernel
theorem dX7_gripOf_16 : decode cX7_gripOf 16 = .ok (.iaload, 1) := by decide +kernel
theorem dX7_gripOf_17 : decode cX7_gripOf 17 = .ok (.goto 4, 3) := by decide +kernel
theorem dX7_gripOf_20 : decode cX7_gripOf 20 = .ok (.iconst 0, 1) := by decide +kernel
theorem dX7_gripOf_21 : decode cX7_gripOf 21 = .ok (.ireturn, 1) := by decide +kernel
theorem dX7_nextTo_0 : decode cX7_nextTo 0 = .ok (.iload_n 0, 1) := by decide +kernel
theorem dX7_nextTo_1 : decode cX7_nextTo 1 = .ok (.iconst 1, 1) := by decide +kernel
theorem dX7_nextTo_2 : decode cX7_nextTo 2 = .ok (.iadd, 1) := by decide +kernel
theorem dX7_nextTo_3 : decode cX7_nextTo 3 = .ok (.iload_n 1, 1) := by decide +kernel
theorem dX7_nextTo_4 : decode cX7_nextTo 4 = .ok (.if_icmp .ge 9, 3) := by decide +kernel
theorem dX7_nextTo_7 : decode cX7_nextTo 7 = .ok (.iload_n 0, 1) := by decide +kernel
theorem dX7_nextTo_8 : decode cX7_nextTo 8 = .ok (.iconst 1, 1) := by decide +kernel
theorem dX7_nextTo_9 : decode cX7_nextTo 9 = .ok (.iadd, 1) := by decide +kernel
theorem dX7_nextTo_10 : decode cX7_nextTo 10 = .ok (.goto 6, 3) := by decide +kernel
theorem dX7_nextTo_13 : decode cX7_nextTo 13 = .ok (.iload_n 0, 1) := by decide +kernel
theorem dX7_nextTo_14 : decode cX7_nextTo 14 = .ok (.iconst 1, 1) := by decide +kernel
theorem dX7_nextTo_15 : decode cX7_nextTo 15 = .ok (.isub, 1) := by decide +kernel
theorem dX7_nextTo_16 : decode cX7_nextTo 16 = .ok (.ireturn, 1) := by decide +kernel
theorem dX7_carrySeconds_0 : decode cX7_carrySeconds 0 = .ok (.iconst 2, 1) := by decide +kernel
theorem dX7_carrySeconds_1 : decode cX7_carrySeconds 1 = .ok (.iload_n 0, 1) := by decide +kernel
theorem dX7_carrySeconds_2 : decode cX7_carrySeconds 2 = .ok (.imul, 1) := by decide +kernel
theorem dX7_carrySeconds_3 : decode cX7_carrySeconds 3 = .ok (.iconst 3, 1) := by decide +kernel
theorem dX7_carrySeconds_4 : decode cX7_carrySeconds 4 = .ok (.iadd, 1) := by decide +kernel
theorem dX7_carrySeconds_5 : decode cX7_carrySeconds 5 = .ok (.ireturn, 1) := by decide +kernel
set_option maxRecDepth 20000 in
theorem ggX7_carryTenths_X7_carrySeconds : GoodIn wsX7_carryTenths wsX7_carrySeconds := goodIn_r _ [4] (by decide +kernel) (by decide +kernel)
set_option maxRecDepth 20000 in
theorem gX7_carryTenths_X7_carrySeconds : GoodIn wsX7_carryTenths (va_wsS RX7 162 yX7_carrySeconds wsX7_carrySeconds) := goodIn_app (goodIn_of _ (by decide +kernel)) ggX7_carryTenths_X7_carrySeconds
theorem dX7_carryTenths_0 : decode cX7_carryTenths 0 = .ok (.bipush 10, 2) := by decide +kernel
theorem dX7_carryTenths_2 : decode cX7_carryTenths 2 = .ok (.iload_n 0, 1) := by decide +kernel
theorem dX7_carryTenths_3 : decode cX7_carryTenths 3 = .ok (.invokestatic 162, 3) := by decide +kernel
theorem dX7_carryTenths_6 : decode cX7_carryTenths 6 = .ok (.imul, 1) := by decide +kernel
theorem dX7_carryTenths_7 : decode cX7_carryTenths 7 = .ok (.ireturn, 1) := by decide +kernel
set_option maxRecDepth 20000 in
theorem ggX7_tenthsOf_X7_gripOf : GoodIn wsX7_tenthsOf wsX7_gripOf := goodIn_r _ [11, 12] (by decide +kernel) (by decide +kernel)
set_option maxRecDepth 20000 in
theorem gX7_tenthsOf_X7_gripOf : GoodIn wsX7_tenthsOf (va_wsS RX7 141 yX7_gripOf wsX7_gripOf) := goodIn_app (goodIn_of _ (by decide +kernel)) ggX7_tenthsOf_X7_gripOf
theorem dX7_tenthsOf_0 : decode cX7_tenthsOf 0 = .ok (.iconst 0, 1) := by decide +kernel
theorem dX7_tenthsOf_1 : decode cX7_tenthsOf 1 = .ok (.bipush 10, 2) := by decide +kernel
theorem dX7_tenthsOf_3 : decode cX7_tenthsOf 3 = .ok (.bipush 10, 2) := by decide +kernel
theorem dX7_tenthsOf_5 : decode cX7_tenthsOf 5 = .ok (.iload_n 0, 1) := by decide +kernel
theorem dX7_tenthsOf_6 : decode cX7_tenthsOf 6 = .ok (.invokestatic 141, 3) := by decide +kernel
theorem dX7_tenthsOf_9 : decode cX7_tenthsOf 9 = .ok (.iadd, 1) := by decide +kernel
theorem dX7_tenthsOf_10 : decode cX7_tenthsOf 10 = .ok (.iload_n 1, 1) := by decide +kernel
theorem dX7_tenthsOf_11 : decode cX7_tenthsOf 11 = .ok (.isub, 1) := by decide +kernel
theorem dX7_tenthsOf_12 : decode cX7_tenthsOf 12 = .ok (.invokestatic 271, 3) := by decide +kernel
theorem dX7_tenthsOf_15 : decode cX7_tenthsOf 15 = .ok (.invokestatic 276, 3) := by decide +kernel
theorem dX7_tenthsOf_18 : decode cX7_tenthsOf 18 = .ok (.istore 4, 2) := by decide +kernel
theorem dX7_tenthsOf_20 : decode cX7_tenthsOf 20 = .ok (.iload_n 2, 1) := by decide +kernel
theorem dX7_tenthsOf_21 : decode cX7_tenthsOf 21 = .ok (.ifCond .eq 7, 3) := by decide +kernel
theorem dX7_tenthsOf_24 : decode cX7_tenthsOf 24 = .ok (.iconst 0, 1) := by decide +kernel
theorem dX7_tenthsOf_25 : decode cX7_tenthsOf 25 = .ok (.goto 10, 3) := by decide +kernel
theorem dX7_tenthsOf_28 : decode cX7_tenthsOf 28 = .ok (.bipush 10, 2) := by decide +kernel
theorem dX7_tenthsOf_30 : decode cX7_tenthsOf 30 = .ok (.iload 4, 2) := by decide +kernel
theorem dX7_tenthsOf_32 : decode cX7_tenthsOf 32 = .ok (.isub, 1) := by decide +kernel
theorem dX7_tenthsOf_33 : decode cX7_tenthsOf 33 = .ok (.iconst 3, 1) := by decide +kernel
theorem dX7_tenthsOf_34 : decode cX7_tenthsOf 34 = .ok (.idiv, 1) := by decide +kernel
theorem dX7_tenthsOf_35 : decode cX7_tenthsOf 35 = .ok (.istore 5, 2) := by decide +kernel
theorem dX7_tenthsOf_37 : decode cX7_tenthsOf 37 = .ok (.iload_n 3, 1) := by decide +kernel
theorem dX7_tenthsOf_38 : decode cX7_tenthsOf 38 = .ok (.ifCond .ne 6, 3) := by decide +kernel
theorem dX7_tenthsOf_41 : decode cX7_tenthsOf 41 = .ok (.iload 4, 2) := by decide +kernel
theorem dX7_tenthsOf_43 : decode cX7_tenthsOf 43 = .ok (.ireturn, 1) := by decide +kernel
theorem dX7_tenthsOf_44 : decode cX7_tenthsOf 44 = .ok (.iload_n 3, 1) := by decide +kernel
theorem dX7_tenthsOf_45 : decode cX7_tenthsOf 45 = .ok (.iconst 1, 1) := by decide +kernel
theorem dX7_tenthsOf_46 : decode cX7_tenthsOf 46 = .ok (.if_icmp .ne 8, 3) := by decide +kernel
theorem dX7_tenthsOf_49 : decode cX7_tenthsOf 49 = .ok (.iload 5, 2) := by decide +kernel
theorem dX7_tenthsOf_51 : decode cX7_tenthsOf 51 = .ok (.goto 11, 3) := by decide +kernel
theorem dX7_tenthsOf_54 : decode cX7_tenthsOf 54 = .ok (.bipush 10, 2) := by decide +kernel
theorem dX7_tenthsOf_56 : decode cX7_tenthsOf 56 = .ok (.iload 4, 2) := by decide +kernel
theorem dX7_tenthsOf_58 : decode cX7_tenthsOf 58 = .ok (.isub, 1) := by decide +kernel
theorem dX7_tenthsOf_59 : decode cX7_tenthsOf 59 = .ok (.iload 5, 2) := by decide +kernel
theorem dX7_tenthsOf_61 : decode cX7_tenthsOf 61 = .ok (.isub, 1) := by decide +kernel
theorem dX7_tenthsOf_62 : decode cX7_tenthsOf 62 = .ok (.ireturn, 1) := by decide +kernel
set_option maxRecDepth 20000 in
theorem ggX7_costOf_X7_tenthsOf : GoodIn wsX7_costOf wsX7_tenthsOf := goodIn_r _ [4, 5, 6, 7, 8, 9, 10, 11, 12, 13, 3, 14, 15] (by decide +kernel) (by decide +kernel)
set_option maxRecDepth 20000 in
theorem gX7_costOf_X7_tenthsOf : GoodIn wsX7_costOf (va_wsS RX7 264 yX7_tenthsOf wsX7_tenthsOf) := goodIn_app (goodIn_of _ (by decide +kernel)) ggX7_costOf_X7_tenthsOf
set_option maxRecDepth 20000 in
theorem ggX7_costOf_X7_carryTenths : GoodIn wsX7_costOf wsX7_carryTenths := goodIn_r _ [18, 19, 20, 3, 21] (by decide +kernel) (by decide +kernel)
set_option maxRecDepth 20000 in
theorem gX7_costOf_X7_carryTenths : GoodIn wsX7_costOf (va_wsS RX7 173 yX7_carryTenths wsX7_carryTenths) := goodIn_app (goodIn_of _ (by decide +kernel)) ggX7_costOf_X7_carryTenths
theorem dX7_costOf_0 : decode cX7_costOf 0 = .ok (.iload_n 0, 1) := by decide +kernel
theorem dX7_costOf_1 : decode cX7_costOf 1 = .ok (.iload_n 1, 1) := by decide +kernel
theorem dX7_costOf_2 : decode cX7_costOf 2 = .ok (.iload_n 2, 1) := by decide +kernel
theorem dX7_costOf_3 : decode cX7_costOf 3 = .ok (.iconst 0, 1) := by decide +kernel
theorem dX7_costOf_4 : decode cX7_costOf 4 = .ok (.invokestatic 264, 3) := by decide +kernel
theorem dX7_costOf_7 : decode cX7_costOf 7 = .ok (.istore_n 3, 1) := by decide +kernel
theorem dX7_costOf_8 : decode cX7_costOf 8 = .ok (.iload_n 0, 1) := by decide +kernel
theorem dX7_costOf_9 : decode cX7_costOf 9 = .ok (.iload_n 1, 1) := by decide +kernel
theorem dX7_costOf_10 : decode cX7_costOf 10 = .ok (.iload_n 2, 1) := by decide +kernel
theorem dX7_costOf_11 : decode cX7_costOf 11 = .ok (.iconst 1, 1) := by decide +kernel
theorem dX7_costOf_12 : decode cX7_costOf 12 = .ok (.invokestatic 264, 3) := by decide +kernel
theorem dX7_costOf_15 : decode cX7_costOf 15 = .ok (.istore 4, 2) := by decide +kernel
theorem dX7_costOf_17 : decode cX7_costOf 17 = .ok (.iload_n 0, 1) := by decide +kernel
theorem dX7_costOf_18 : decode cX7_costOf 18 = .ok (.iload_n 1, 1) := by decide +kernel
theorem dX7_costOf_19 : decode cX7_costOf 19 = .ok (.iload_n 2, 1) := by decide +kernel
theorem dX7_costOf_20 : decode cX7_costOf 20 = .ok (.iconst 2, 1) := by decide +kernel
theorem dX7_costOf_21 : decode cX7_costOf 21 = .ok (.invokestatic 264, 3) := by decide +kernel
theorem dX7_costOf_24 : decode cX7_costOf 24 = .ok (.istore 5, 2) := by decide +kernel
theorem dX7_costOf_26 : decode cX7_costOf 26 = .ok (.sipush 600, 3) := by decide +kernel
theorem dX7_costOf_29 : decode cX7_costOf 29 = .ok (.iload 4, 2) := by decide +kernel
theorem dX7_costOf_31 : decode cX7_costOf 31 = .ok (.imul, 1) := by decide +kernel
theorem dX7_costOf_32 : decode cX7_costOf 32 = .ok (.iload_n 1, 1) := by decide +kernel
theorem dX7_costOf_33 : decode cX7_costOf 33 = .ok (.invokestatic 173, 3) := by decide +kernel
theorem dX7_costOf_36 : decode cX7_costOf 36 = .ok (.iload 5, 2) := by decide +kernel
theorem dX7_costOf_38 : decode cX7_costOf 38 = .ok (.imul, 1) := by decide +kernel
theorem dX7_costOf_39 : decode cX7_costOf 39 = .ok (.iadd, 1) := by decide +kernel
theorem dX7_costOf_40 : decode cX7_costOf 40 = .ok (.istore 6, 2) := by decide +kernel
theorem dX7_costOf_42 : decode cX7_costOf 42 = .ok (.iload_n 0, 1) := by decide +kernel
theorem dX7_costOf_43 : decode cX7_costOf 43 = .ok (.iconst 3, 1) := by decide +kernel
theorem dX7_costOf_44 : decode cX7_costOf 44 = .ok (.if_icmp .ne 15, 3) := by decide +kernel
theorem dX7_costOf_47 : decode cX7_costOf 47 = .ok (.iload 6, 2) := by decide +kernel
theorem dX7_costOf_49 : decode cX7_costOf 49 = .ok (.bipush 90, 2) := by decide +kernel
theorem dX7_costOf_51 : decode cX7_costOf 51 = .ok (.iload_n 3, 1) := by decide +kernel
theorem dX7_costOf_52 : decode cX7_costOf 52 = .ok (.iload 4, 2) := by decide +kernel
theorem dX7_costOf_54 : decode cX7_costOf 54 = .ok (.iadd, 1) := by decide +kernel
theorem dX7_costOf_55 : decode cX7_costOf 55 = .ok (.imul, 1) := by decide +kernel
theorem dX7_costOf_56 : decode cX7_costOf 56 = .ok (.iadd, 1) := by decide +kernel
theorem dX7_costOf_57 : decode cX7_costOf 57 = .ok (.istore 6, 2) := by decide +kernel
theorem dX7_costOf_59 : decode cX7_costOf 59 = .ok (.bipush 20, 2) := by decide +kernel
theorem dX7_costOf_61 : decode cX7_costOf 61 = .ok (.iload 6, 2) := by decide +kernel
theorem dX7_costOf_63 : decode cX7_costOf 63 = .ok (.bipush 10, 2) := by decide +kernel
theorem dX7_costOf_65 : decode cX7_costOf 65 = .ok (.idiv, 1) := by decide +kernel
theorem dX7_costOf_66 : decode cX7_costOf 66 = .ok (.iadd, 1) := by decide +kernel
theorem dX7_costOf_67 : decode cX7_costOf 67 = .ok (.ireturn, 1) := by decide +kernel
theorem dX8_init_0 : decode cX8_init 0 = .ok (.aload_n 0, 1) := by decide +kernel
theorem dX8_init_1 : decode cX8_init 1 = .ok (.invokespecial 1, 3) := by decide +kernel
theorem dX8_init_4 : decode cX8_init 4 = .ok (.aload_n 0, 1) := by decide +kernel
theorem dX8_init_5 : decode cX8_init 5 = .ok (.bipush 6, 2) := by decide +kernel
theorem dX8_init_7 : decode cX8_init 7 = .ok (.newarray .int, 2) := by decide +kernel
theorem dX8_init_9 : decode cX8_init 9 = .ok (.putfield 7, 3) := by decide +kernel
theorem dX8_init_12 : decode cX8_init 12 = .ok (.aload_n 0, 1) := by decide +kernel
theorem dX8_init_13 : decode cX8_init 13 = .ok (.bipush 6, 2) := by decide +kernel
theorem dX8_init_15 : decode cX8_init 15 = .ok (.newarray .int, 2) := by decide +kernel
theorem dX8_init_17 : decode cX8_init 17 = .ok (.putfield 13, 3) := by decide +kernel
theorem dX8_init_20 : decode cX8_init 20 = .ok (.aload_n 0, 1) := by decide +kernel
theorem dX8_init_21 : decode cX8_init 21 = .ok (.bipush 6, 2) := by decide +kernel
theorem dX8_init_23 : decode cX8_init 23 = .ok (.newarray .int, 2) := by decide +kernel
theorem dX8_init_25 : decode cX8_init 25 = .ok (.putfield 16, 3) := by decide +kernel
theorem dX8_init_28 : decode cX8_init 28 = .ok (.aload_n 0, 1) := by decide +kernel
theorem dX8_init_29 : decode cX8_init 29 = .ok (.bipush 12, 2) := by decide +kernel
theorem dX8_init_31 : decode cX8_init 31 = .ok (.newarray .int, 2) := by decide +kernel
theorem dX8_init_33 : decode cX8_init 33 = .ok (.putfield 19, 3) := by decide +kernel
theorem dX8_init_36 : decode cX8_init 36 = .ok (.aload_n 0, 1) := by decide +kernel
theorem dX8_init_37 : decode cX8_init 37 = .ok (.bipush 12, 2) := by decide +kernel
theorem dX8_init_39 : decode cX8_init 39 = .ok (.newarray .int, 2) := by decide +kernel
theorem dX8_init_41 : decode cX8_init 41 = .ok (.putfield 22, 3) := by decide +kernel
theorem dX8_init_44 : decode cX8_init 44 = .ok (.aload_n 0, 1) := by decide +kernel
theorem dX8_init_45 : decode cX8_init 45 = .ok (.bipush 6, 2) := by decide +kernel
theorem dX8_init_47 : decode cX8_init 47 = .ok (.newarray .int, 2) := by decide +kernel
theorem dX8_init_49 : decode cX8_init 49 = .ok (.putfield 25, 3) := by decide +kernel
theorem dX8_init_52 : decode cX8_init 52 = .ok (.aload_n 0, 1) := by decide +kernel
theorem dX8_init_53 : decode cX8_init 53 = .ok (.bipush 6, 2) := by decide +kernel
theorem dX8_init_55 : decode cX8_init 55 = .ok (.newarray .int, 2) := by decide +kernel
theorem dX8_init_57 : decode cX8_init 57 = .ok (.putfield 28, 3) := by decide +kernel
theorem dX8_init_60 : decode cX8_init 60 = .ok (.aload_n 0, 1) := by decide +kernel
theorem dX8_init_61 : decode cX8_init 61 = .ok (.bipush 6, 2) := by decide +kernel
theorem dX8_init_63 : decode cX8_init 63 = .ok (.newarray .int, 2) := by decide +kernel
theorem dX8_init_65 : decode cX8_init 65 = .ok (.putfield 31, 3) := by decide +kernel
theorem dX8_init_68 : decode cX8_init 68 = .ok (.aload_n 0, 1) := by decide +kernel
theorem dX8_init_69 : decode cX8_init 69 = .ok (.bipush 8, 2) := by decide +kernel
theorem dX8_init_71 : decode cX8_init 71 = .ok (.newarray .int, 2) := by decide +kernel
theorem dX8_init_73 : decode cX8_init 73 = .ok (.putfield 34, 3) := by decide +kernel
theorem dX8_init_76 : decode cX8_init 76 = .ok (.aload_n 0, 1) := by decide +kernel
theorem dX8_init_77 : decode cX8_init 77 = .ok (.bipush 8, 2) := by decide +kernel
theorem dX8_init_79 : decode cX8_init 79 = .ok (.newarray .int, 2) := by decide +kernel
theorem dX8_init_81 : decode cX8_init 81 = .ok (.putfield 37, 3) := by decide +kernel
theorem dX8_init_84 : decode cX8_init 84 = .ok (.aload_n 0, 1) := by decide +kernel
theorem dX8_init_85 : decode cX8_init 85 = .ok (.bipush 8, 2) := by decide +kernel
theorem dX8_init_87 : decode cX8_init 87 = .ok (.newarray .int, 2) := by decide +kernel
theorem dX8_init_89 : decode cX8_init 89 = .ok (.putfield 40, 3) := by decide +kernel
theorem dX8_init_92 : decode cX8_init 92 = .ok (.aload_n 0, 1) := by decide +kernel
theorem dX8_init_93 : decode cX8_init 93 = .ok (.bipush 8, 2) := by decide +kernel
theorem dX8_init_95 : decode cX8_init 95 = .ok (.newarray .int, 2) := by decide +kernel
theorem dX8_init_97 : decode cX8_init 97 = .ok (.putfield 43, 3) := by decide +kernel
theorem dX8_init_100 : decode cX8_init 100 = .ok (.aload_n 0, 1) := by decide +kernel
theorem dX8_init_101 : decode cX8_init 101 = .ok (.bipush 24, 2) := by decide +kernel
theorem dX8_init_103 : decode cX8_init 103 = .ok (.newarray .byte, 2) := by decide +kernel
theorem dX8_init_105 : decode cX8_init 105 = .ok (.putfield 46, 3) := by decide +kernel
theorem dX8_init_108 : decode cX8_init 108 = .ok (.aload_n 0, 1) := by decide +kernel
theorem dX8_init_109 : decode cX8_init 109 = .ok (.bipush 6, 2) := by decide +kernel
theorem dX8_init_111 : decode cX8_init 111 = .ok (.newarray .int, 2) := by decide +kernel
theorem dX8_init_113 : decode cX8_init 113 = .ok (.putfield 50, 3) := by decide +kernel
theorem dX8_init_116 : decode cX8_init 116 = .ok (.aload_n 0, 1) := by decide +kernel
theorem dX8_init_117 : decode cX8_init 117 = .ok (.bipush 6, 2) := by decide +kernel
theorem dX8_init_119 : decode cX8_init 119 = .ok (.newarray .int, 2) := by decide +kernel
theorem dX8_init_121 : decode cX8_init 121 = .ok (.putfield 53, 3) := by decide +kernel
theorem dX8_init_124 : decode cX8_init 124 = .ok (.aload_n 0, 1) := by decide +kernel
theorem dX8_init_125 : decode cX8_init 125 = .ok (.bipush 6, 2) := by decide +kernel
theorem dX8_init_127 : decode cX8_init 127 = .ok (.newarray .int, 2) := by decide +kernel
theorem dX8_init_129 : decode cX8_init 129 = .ok (.putfield 56, 3) := by decide +kernel
theorem dX8_init_132 : decode cX8_init 132 = .ok (.aload_n 0, 1) := by decide +kernel
theorem dX8_init_133 : decode cX8_init 133 = .ok (.bipush 6, 2) := by decide +kernel
theorem dX8_init_135 : decode cX8_init 135 = .ok (.newarray .int, 2) := by decide +kernel
theorem dX8_init_137 : decode cX8_init 137 = .ok (.putfield 59, 3) := by decide +kernel
theorem dX8_init_140 : decode cX8_init 140 = .ok (.aload_n 0, 1) := by decide +kernel
theorem dX8_init_141 : decode cX8_init 141 = .ok (.bipush 6, 2) := by decide +kernel
theorem dX8_init_143 : decode cX8_init 143 = .ok (.newarray .int, 2) := by decide +kernel
theorem dX8_init_145 : decode cX8_init 145 = .ok (.putfield 62, 3) := by decide +kernel
theorem dX8_init_148 : decode cX8_init 148 = .ok (.aload_n 0, 1) := by decide +kernel
theorem dX8_init_149 : decode cX8_init 149 = .ok (.bipush 8, 2) := by decide +kernel
theorem dX8_init_151 : decode cX8_init 151 = .ok (.newarray .int, 2) := by decide +kernel
theorem dX8_init_153 : decode cX8_init 153 = .ok (.putfield 65, 3) := by decide +kernel
theorem dX8_init_156 : decode cX8_init 156 = .ok (.aload_n 0, 1) := by decide +kernel
theorem dX8_init_157 : decode cX8_init 157 = .ok (.bipush 8, 2) := by decide +kernel
theorem dX8_init_159 : decode cX8_init 159 = .ok (.newarray .int, 2) := by decide +kernel
theorem dX8_init_161 : decode cX8_init 161 = .ok (.putfield 68, 3) := by decide +kernel
theorem dX8_init_164 : decode cX8_init 164 = .ok (.aload_n 0, 1) := by decide +kernel
theorem dX8_init_165 : decode cX8_init 165 = .ok (.bipush 8, 2) := by decide +kernel
theorem dX8_init_167 : decode cX8_init 167 = .ok (.newarray .int, 2) := by decide +kernel
theorem dX8_init_169 : decode cX8_init 169 = .ok (.putfield 71, 3) := by decide +kernel
theorem dX8_init_172 : decode cX8_init 172 = .ok (.aload_n 0, 1) := by decide +kernel
theorem dX8_init_173 : decode cX8_init 173 = .ok (.bipush 8, 2) := by decide +kernel
theorem dX8_init_175 : decode cX8_init 175 = .ok (.newarray .int, 2) := by decide +kernel
theorem dX8_init_177 : decode cX8_init 177 = .ok (.putfield 74, 3) := by decide +kernel
theorem dX8_init_180 : decode cX8_init 180 = .ok (.return_, 1) := by decide +kernel
theorem dX8_within_0 : decode cX8_within 0 = .ok (.iload_n 0, 1) := by decide +kernel
theorem dX8_within_1 : decode cX8_within 1 = .ok (.iload_n 1, 1) := by decide +kernel
theorem dX8_within_2 : decode cX8_within 2 = .ok (.if_icmp .lt 12, 3) := by decide +kernel
theorem dX8_within_5 : decode cX8_within 5 = .ok (.iload_n 0, 1) := by decide +kernel
theorem dX8_within_6 : decode cX8_within 6 = .ok (.iload_n 2, 1) := by decide +kernel
theorem dX8_within_7 : decode cX8_within 7 = .ok (.if_icmp .gt 7, 3) := by decide +kernel
theorem dX8_within_10 : decode cX8_within 10 = .ok (.iconst 1, 1) := by decide +kernel
theorem dX8_within_11 : decode cX8_within 11 = .ok (.goto 4, 3) := by decide +kernel
theorem dX8_within_14 : decode cX8_within 14 = .ok (.iconst 0, 1) := by decide +kernel
theorem dX8_within_15 : decode cX8_within 15 = .ok (.ireturn, 1) := by decide +kernel
set_option maxRecDepth 20000 in
theorem ggX8_letter_X8_within : GoodIn wsX8_letter wsX8_within := goodIn_r _ [6] (by decide +kernel) (by decide +kernel)
set_option maxRecDepth 20000 in
theorem gX8_letter_X8_within : GoodIn wsX8_letter (va_wsS RX8 77 yX8_within wsX8_within) := goodIn_app (goodIn_of _ (by decide +kernel)) ggX8_letter_X8_within
theorem dX8_letter_0 : decode cX8_letter 0 = .ok (.iload_n 1, 1) := by decide +kernel
theorem dX8_letter_1 : decode cX8_letter 1 = .ok (.bipush 32, 2) := by decide +kernel
theorem dX8_letter_3 : decode cX8_letter 3 = .ok (.bipush 126, 2) := by decide +kernel
theorem dX8_letter_5 : decode cX8_letter 5 = .ok (.invokestatic 77, 3) := by decide +kernel
theorem dX8_letter_8 : decode cX8_letter 8 = .ok (.ifCond .ne 6, 3) := by decide +kernel
theorem dX8_letter_11 : decode cX8_letter 11 = .ok (.bipush (-102), 2) := by decide +kernel
theorem dX8_letter_13 : decode cX8_letter 13 = .ok (.ireturn, 1) := by decide +kernel
theorem dX8_letter_14 : decode cX8_letter 14 = .ok (.aload_n 0, 1) := by decide +kernel
theorem dX8_letter_15 : decode cX8_letter 15 = .ok (.getfield 81, 3) := by decide +kernel
theorem dX8_letter_18 : decode cX8_letter 18 = .ok (.bipush 24, 2) := by decide +kernel
theorem dX8_letter_20 : decode cX8_letter 20 = .ok (.if_icmp .ne 6, 3) := by decide +kernel
theorem dX8_letter_23 : decode cX8_letter 23 = .ok (.bipush (-104), 2) := by decide +kernel
theorem dX8_letter_25 : decode cX8_letter 25 = .ok (.ireturn, 1) := by decide +kernel
theorem dX8_letter_26 : decode cX8_letter 26 = .ok (.aload_n 0, 1) := by decide +kernel
theorem dX8_letter_27 : decode cX8_letter 27 = .ok (.getfield 46, 3) := by decide +kernel
theorem dX8_letter_30 : decode cX8_letter 30 = .ok (.aload_n 0, 1) := by decide +kernel
theorem dX8_letter_31 : decode cX8_letter 31 = .ok (.getfield 81, 3) := by decide +kernel
theorem dX8_letter_34 : decode cX8_letter 34 = .ok (.iload_n 1, 1) := by decide +kernel
theorem dX8_letter_35 : decode cX8_letter 35 = .ok (.i2b, 1) := by decide +kernel
theorem dX8_letter_36 : decode cX8_letter 36 = .ok (.bastore, 1) := by decide +kernel
theorem dX8_letter_37 : decode cX8_letter 37 = .ok (.aload_n 0, 1) := by decide +kernel
theorem dX8_letter_38 : decode cX8_letter 38 = .ok (.dup, 1) := by decide +kernel
theorem dX8_letter_39 : decode cX8_letter 39 = .ok (.getfield 81, 3) := by decide +kernel
theorem dX8_letter_42 : decode cX8_letter 42 = .ok (.iconst 1, 1) := by decide +kernel
theorem dX8_letter_43 : decode cX8_letter 43 = .ok (.iadd, 1) := by decide +kernel
theorem dX8_letter_44 : decode cX8_letter 44 = .ok (.putfield 81, 3) := by decide +kernel
theorem dX8_letter_47 : decode cX8_letter 47 = .ok (.aload_n 0, 1) := by decide +kernel
theorem dX8_letter_48 : decode cX8_letter 48 = .ok (.getfield 81, 3) := by decide +kernel
theorem dX8_letter_51 : decode cX8_letter 51 = .ok (.ireturn, 1) := by decide +kernel
theorem dX8_blank_0 : decode cX8_blank 0 = .ok (.aload_n 0, 1) := by decide +kernel
theorem dX8_blank_1 : decode cX8_blank 1 = .ok (.getfield 81, 3) := by decide +kernel
theorem dX8_blank_4 : decode cX8_blank 4 = .ok (.istore_n 1, 1) := by decide +kernel
theorem dX8_blank_5 : decode cX8_blank 5 = .ok (.aload_n 0, 1) := by decide +kernel
theorem dX8_blank_6 : decode cX8_blank 6 = .ok (.iconst 0, 1) := by decide +kernel
theorem dX8_blank_7 : decode cX8_blank 7 = .ok (.putfield 81, 3) := by decide +kernel
theorem dX8_blank_10 : decode cX8_blank 10 = .ok (.iload_n 1, 1) := by decide +kernel
theorem dX8_blank_11 : decode cX8_blank 11 = .ok (.ireturn, 1) := by decide +kernel
set_option maxRecDepth 20000 in
theorem ggX8_isFigure_X8_within : GoodIn wsX8_isFigure wsX8_within := goodIn_r _ [6] (by decide +kernel) (by decide +kernel)
set_option maxRecDepth 20000 in
theorem gX8_isFigure_X8_within : GoodIn wsX8_isFigure (va_wsS RX8 77 yX8_within wsX8_within) := goodIn_app (goodIn_of _ (by decide +kernel)) ggX8_isFigure_X8_within
theorem dX8_isFigure_0 : decode cX8_isFigure 0 = .ok (.iload_n 1, 1) := by decide +kernel
theorem dX8_isFigure_1 : decode cX8_isFigure 1 = .ok (.aload_n 0, 1) := by decide +kernel
theorem dX8_isFigure_2 : decode cX8_isFigure 2 = .ok (.getfield 81, 3) := by decide +kernel
theorem dX8_isFigure_5 : decode cX8_isFigure 5 = .ok (.if_icmp .ge 24, 3) := by decide +kernel
theorem dX8_isFigure_8 : decode cX8_isFigure 8 = .ok (.aload_n 0, 1) := by decide +kernel
theorem dX8_isFigure_9 : decode cX8_isFigure 9 = .ok (.getfield 46, 3) := by decide +kernel
theorem dX8_isFigure_12 : decode cX8_isFigure 12 = .ok (.iload_n 1, 1) := by decide +kernel
theorem dX8_isFigure_13 : decode cX8_isFigure 13 = .ok (.baload, 1) := by decide +kernel
theorem dX8_isFigure_14 : decode cX8_isFigure 14 = .ok (.bipush 48, 2) := by decide +kernel
theorem dX8_isFigure_16 : decode cX8_isFigure 16 = .ok (.isub, 1) := by decide +kernel
theorem dX8_isFigure_17 : decode cX8_isFigure 17 = .ok (.iload_n 2, 1) := by decide +kernel
theorem dX8_isFigure_18 : decode cX8_isFigure 18 = .ok (.iload_n 3, 1) := by decide +kernel
theorem dX8_isFigure_19 : decode cX8_isFigure 19 = .ok (.invokestatic 77, 3) := by decide +kernel
theorem dX8_isFigure_22 : decode cX8_isFigure 22 = .ok (.ifCond .eq 7, 3) := by decide +kernel
theorem dX8_isFigure_25 : decode cX8_isFigure 25 = .ok (.iconst 1, 1) := by decide +kernel
theorem dX8_isFigure_26 : decode cX8_isFigure 26 = .ok (.goto 4, 3) := by decide +kernel
end
section
theorem dX8_isFigure_29 : decode cX8_isFigure 29 = .ok (.iconst 0, 1) := by decide +kernel
theorem dX8_isFigure_30 : decode cX8_isFigure 30 = .ok (.ireturn, 1) := by decide +kernel
theorem dX8_isSign_0 : decode cX8_isSign 0 = .ok (.iload_n 1, 1) := by decide +kernel
theorem dX8_isSign_1 : decode cX8_isSign 1 = .ok (.aload_n 0, 1) := by decide +kernel
theorem dX8_isSign_2 : decode cX8_isSign 2 = .ok (.getfield 81, 3) := by decide +kernel
theorem dX8_isSign_5 : decode cX8_isSign 5 = .ok (.if_icmp .ge 17, 3) := by decide +kernel
theorem dX8_isSign_8 : decode cX8_isSign 8 = .ok (.aload_n 0, 1) := by decide +kernel
theorem dX8_isSign_9 : decode cX8_isSign 9 = .ok (.getfield 46, 3) := by decide +kernel
theorem dX8_isSign_12 : decode cX8_isSign 12 = .ok (.iload_n 1, 1) := by decide +kernel
theorem dX8_isSign_13 : decode cX8_isSign 13 = .ok (.baload, 1) := by decide +kernel
theorem dX8_isSign_14 : decode cX8_isSign 14 = .ok (.iload_n 2, 1) := by decide +kernel
theorem dX8_isSign_15 : decode cX8_isSign 15 = .ok (.if_icmp .ne 7, 3) := by decide +kernel
theorem dX8_isSign_18 : decode cX8_isSign 18 = .ok (.iconst 1, 1) := by decide +kernel
theorem dX8_isSign_19 : decode cX8_isSign 19 = .ok (.goto 4, 3) := by decide +kernel
theorem dX8_isSign_22 : decode cX8_isSign 22 = .ok (.iconst 0, 1) := by decide +kernel
theorem dX8_isSign_23 : decode cX8_isSign 23 = .ok (.ireturn, 1) := by decide +kernel
set_option maxRecDepth 20000 in
theorem ggX8_read_X8_isFigure : GoodIn wsX8_read wsX8_isFigure := goodIn_r _ [8, 9, 10, 11, 12, 7, 13, 22, 23, 24, 25, 26, 27, 28, 29, 30, 31, 32, 33, 34, 35, 36, 37, 38, 39, 40, 41, 42, 43, 44, 45, 46, 47, 48, 49, 50, 51, 52, 53, 54, 55, 56, 57, 58, 59, 60, 61, 62, 63] (by decide +kernel) (by decide +kernel)
set_option maxRecDepth 20000 in
theorem gX8_read_X8_isFigure : GoodIn wsX8_read (wsV RX8 95 RX8 yX8_isFigure wsX8_isFigure) := goodIn_app (goodIn_of _ (by decide +kernel)) ggX8_read_X8_isFigure
set_option maxRecDepth 20000 in
theorem ggX8_read_X8_isSign : GoodIn wsX8_read wsX8_isSign := goodIn_r _ [17, 9, 10, 22, 23, 24, 25, 26, 27, 28, 29, 30, 31, 32, 33, 34, 35, 36, 37, 38, 39, 40, 41, 42, 43, 44, 45, 46, 47, 48, 49, 50, 51, 52, 53, 54, 55, 56, 57, 58, 59, 60, 61, 62, 63] (by decide +kernel) (by decide +kernel)
set_option maxRecDepth 20000 in
theorem gX8_read_X8_isSign : GoodIn wsX8_read (wsV RX8 98 RX8 yX8_isSign wsX8_isSign) := goodIn_app (goodIn_of _ (by decide +kernel)) ggX8_read_X8_isSign
set_option maxRecDepth 20000 in
theorem ggX8_read_X8_readOften : GoodIn wsX8_read wsX8_readOften := goodIn_r _ [21, 1, 3, 9, 2, 4, 5, 6, 7, 8, 10, 11, 12, 13, 22, 23, 24, 25, 26, 27, 28, 29, 30, 31, 32, 33, 34, 35, 36, 37, 38, 39, 40, 41, 42, 43, 44, 45, 46, 47, 48, 49, 50, 51, 52, 53, 54, 55, 56, 57, 58, 59, 60, 61, 62, 63] (by decide +kernel) (by decide +kernel)
set_option maxRecDepth 20000 in
theorem gX8_read_X8_readOften : GoodIn wsX8_read (wsV RX8 102 RX8 yX8_readOften wsX8_readOften) := goodIn_app (goodIn_of _ (by decide +kernel)) ggX8_read_X8_readOften
theorem dX8_read_0 : decode cX8_read 0 = .ok (.iconst 0, 1) := by decide +kernel
theorem dX8_read_1 : decode cX8_read 1 = .ok (.istore_n 1, 1) := by decide +kernel
theorem dX8_read_2 : decode cX8_read 2 = .ok (.aload_n 0, 1) := by decide +kernel
theorem dX8_read_3 : decode cX8_read 3 = .ok (.iconst 0, 1) := by decide +kernel
theorem dX8_read_4 : decode cX8_read 4 = .ok (.putfield 85, 3) := by decide +kernel
theorem dX8_read_7 : decode cX8_read 7 = .ok (.aload_n 0, 1) := by decide +kernel
theorem dX8_read_8 : decode cX8_read 8 = .ok (.iconst 0, 1) := by decide +kernel
theorem dX8_read_9 : decode cX8_read 9 = .ok (.putfield 88, 3) := by decide +kernel
theorem dX8_read_12 : decode cX8_read 12 = .ok (.iconst 1, 1) := by decide +kernel
theorem dX8_read_13 : decode cX8_read 13 = .ok (.istore_n 2, 1) := by decide +kernel
theorem dX8_read_14 : decode cX8_read 14 = .ok (.iload_n 2, 1) := by decide +kernel
theorem dX8_read_15 : decode cX8_read 15 = .ok (.ifCond .eq 122, 3) := by decide +kernel
theorem dX8_read_18 : decode cX8_read 18 = .ok (.aload_n 0, 1) := by decide +kernel
theorem dX8_read_19 : decode cX8_read 19 = .ok (.iload_n 1, 1) := by decide +kernel
theorem dX8_read_20 : decode cX8_read 20 = .ok (.putfield 92, 3) := by decide +kernel
theorem dX8_read_23 : decode cX8_read 23 = .ok (.aload_n 0, 1) := by decide +kernel
theorem dX8_read_24 : decode cX8_read 24 = .ok (.iload_n 1, 1) := by decide +kernel
theorem dX8_read_25 : decode cX8_read 25 = .ok (.iconst 1, 1) := by decide +kernel
theorem dX8_read_26 : decode cX8_read 26 = .ok (.bipush 8, 2) := by decide +kernel
theorem dX8_read_28 : decode cX8_read 28 = .ok (.invokevirtual 95, 3) := by decide +kernel
theorem dX8_read_31 : decode cX8_read 31 = .ok (.istore_n 2, 1) := by decide +kernel
theorem dX8_read_32 : decode cX8_read 32 = .ok (.iload_n 2, 1) := by decide +kernel
theorem dX8_read_33 : decode cX8_read 33 = .ok (.ifCond .eq 21, 3) := by decide +kernel
theorem dX8_read_36 : decode cX8_read 36 = .ok (.aload_n 0, 1) := by decide +kernel
theorem dX8_read_37 : decode cX8_read 37 = .ok (.iload_n 1, 1) := by decide +kernel
theorem dX8_read_38 : decode cX8_read 38 = .ok (.iconst 1, 1) := by decide +kernel
theorem dX8_read_39 : decode cX8_read 39 = .ok (.iadd, 1) := by decide +kernel
theorem dX8_read_40 : decode cX8_read 40 = .ok (.putfield 92, 3) := by decide +kernel
theorem dX8_read_43 : decode cX8_read 43 = .ok (.aload_n 0, 1) := by decide +kernel
theorem dX8_read_44 : decode cX8_read 44 = .ok (.iload_n 1, 1) := by decide +kernel
theorem dX8_read_45 : decode cX8_read 45 = .ok (.iconst 1, 1) := by decide +kernel
theorem dX8_read_46 : decode cX8_read 46 = .ok (.iadd, 1) := by decide +kernel
theorem dX8_read_47 : decode cX8_read 47 = .ok (.iconst 1, 1) := by decide +kernel
theorem dX8_read_48 : decode cX8_read 48 = .ok (.bipush 9, 2) := by decide +kernel
theorem dX8_read_50 : decode cX8_read 50 = .ok (.invokevirtual 95, 3) := by decide +kernel
theorem dX8_read_53 : decode cX8_read 53 = .ok (.istore_n 2, 1) := by decide +kernel
theorem dX8_read_54 : decode cX8_read 54 = .ok (.iload_n 2, 1) := by decide +kernel
theorem dX8_read_55 : decode cX8_read 55 = .ok (.ifCond .eq (-41), 3) := by decide +kernel
theorem dX8_read_58 : decode cX8_read 58 = .ok (.iinc 1 2, 3) := by decide +kernel
theorem dX8_read_61 : decode cX8_read 61 = .ok (.aload_n 0, 1) := by decide +kernel
theorem dX8_read_62 : decode cX8_read 62 = .ok (.dup, 1) := by decide +kernel
theorem dX8_read_63 : decode cX8_read 63 = .ok (.getfield 85, 3) := by decide +kernel
theorem dX8_read_66 : decode cX8_read 66 = .ok (.iconst 1, 1) := by decide +kernel
theorem dX8_read_67 : decode cX8_read 67 = .ok (.iadd, 1) := by decide +kernel
theorem dX8_read_68 : decode cX8_read 68 = .ok (.putfield 85, 3) := by decide +kernel
theorem dX8_read_71 : decode cX8_read 71 = .ok (.aload_n 0, 1) := by decide +kernel
theorem dX8_read_72 : decode cX8_read 72 = .ok (.iload_n 1, 1) := by decide +kernel
theorem dX8_read_73 : decode cX8_read 73 = .ok (.putfield 92, 3) := by decide +kernel
theorem dX8_read_76 : decode cX8_read 76 = .ok (.aload_n 0, 1) := by decide +kernel
theorem dX8_read_77 : decode cX8_read 77 = .ok (.getfield 85, 3) := by decide +kernel
theorem dX8_read_80 : decode cX8_read 80 = .ok (.iconst 2, 1) := by decide +kernel
theorem dX8_read_81 : decode cX8_read 81 = .ok (.if_icmp .le 25, 3) := by decide +kernel
theorem dX8_read_84 : decode cX8_read 84 = .ok (.aload_n 0, 1) := by decide +kernel
theorem dX8_read_85 : decode cX8_read 85 = .ok (.iload_n 1, 1) := by decide +kernel
theorem dX8_read_86 : decode cX8_read 86 = .ok (.bipush 59, 2) := by decide +kernel
theorem dX8_read_88 : decode cX8_read 88 = .ok (.invokevirtual 98, 3) := by decide +kernel
theorem dX8_read_91 : decode cX8_read 91 = .ok (.ifCond .eq 15, 3) := by decide +kernel
theorem dX8_read_94 : decode cX8_read 94 = .ok (.aload_n 0, 1) := by decide +kernel
theorem dX8_read_95 : decode cX8_read 95 = .ok (.iload_n 1, 1) := by decide +kernel
theorem dX8_read_96 : decode cX8_read 96 = .ok (.iconst 1, 1) := by decide +kernel
theorem dX8_read_97 : decode cX8_read 97 = .ok (.iadd, 1) := by decide +kernel
theorem dX8_read_98 : decode cX8_read 98 = .ok (.invokevirtual 102, 3) := by decide +kernel
theorem dX8_read_101 : decode cX8_read 101 = .ok (.iconst 0, 1) := by decide +kernel
theorem dX8_read_102 : decode cX8_read 102 = .ok (.istore_n 2, 1) := by decide +kernel
theorem dX8_read_103 : decode cX8_read 103 = .ok (.goto (-89), 3) := by decide +kernel
theorem dX8_read_106 : decode cX8_read 106 = .ok (.aload_n 0, 1) := by decide +kernel
theorem dX8_read_107 : decode cX8_read 107 = .ok (.getfield 85, 3) := by decide +kernel
theorem dX8_read_110 : decode cX8_read 110 = .ok (.bipush 6, 2) := by decide +kernel
theorem dX8_read_112 : decode cX8_read 112 = .ok (.if_icmp .ge 17, 3) := by decide +kernel
theorem dX8_read_115 : decode cX8_read 115 = .ok (.aload_n 0, 1) := by decide +kernel
theorem dX8_read_116 : decode cX8_read 116 = .ok (.iload_n 1, 1) := by decide +kernel
theorem dX8_read_117 : decode cX8_read 117 = .ok (.bipush 44, 2) := by decide +kernel
theorem dX8_read_119 : decode cX8_read 119 = .ok (.invokevirtual 98, 3) := by decide +kernel
theorem dX8_read_122 : decode cX8_read 122 = .ok (.ifCond .eq 7, 3) := by decide +kernel
theorem dX8_read_125 : decode cX8_read 125 = .ok (.iconst 1, 1) := by decide +kernel
theorem dX8_read_126 : decode cX8_read 126 = .ok (.goto 4, 3) := by decide +kernel
theorem dX8_read_129 : decode cX8_read 129 = .ok (.iconst 0, 1) := by decide +kernel
theorem dX8_read_130 : decode cX8_read 130 = .ok (.istore_n 2, 1) := by decide +kernel
theorem dX8_read_131 : decode cX8_read 131 = .ok (.iinc 1 1, 3) := by decide +kernel
theorem dX8_read_134 : decode cX8_read 134 = .ok (.goto (-120), 3) := by decide +kernel
theorem dX8_read_137 : decode cX8_read 137 = .ok (.return_, 1) := by decide +kernel
set_option maxRecDepth 20000 in
theorem ggX8_readOften_X8_isFigure : GoodIn wsX8_readOften wsX8_isFigure := goodIn_r _ [9, 3, 10, 11, 12, 8, 13, 14, 15, 16, 17, 18, 19, 20, 21, 22, 23, 24, 25, 26, 27, 28, 29, 30, 31, 32, 33, 34, 35, 36, 37, 38, 39, 40, 41, 42, 43, 44, 45, 46, 47, 48, 49, 50, 51, 52, 53, 54, 55] (by decide +kernel) (by decide +kernel)
set_option maxRecDepth 20000 in
theorem gX8_readOften_X8_isFigure : GoodIn wsX8_readOften (wsV RX8 95 RX8 yX8_isFigure wsX8_isFigure) := goodIn_app (goodIn_of _ (by decide +kernel)) ggX8_readOften_X8_isFigure
theorem dX8_readOften_0 : decode cX8_readOften 0 = .ok (.iload_n 1, 1) := by decide +kernel
theorem dX8_readOften_1 : decode cX8_readOften 1 = .ok (.istore_n 2, 1) := by decide +kernel
theorem dX8_readOften_2 : decode cX8_readOften 2 = .ok (.iload_n 2, 1) := by decide +kernel
theorem dX8_readOften_3 : decode cX8_readOften 3 = .ok (.iload_n 1, 1) := by decide +kernel
theorem dX8_readOften_4 : decode cX8_readOften 4 = .ok (.aload_n 0, 1) := by decide +kernel
theorem dX8_readOften_5 : decode cX8_readOften 5 = .ok (.getfield 85, 3) := by decide +kernel
theorem dX8_readOften_8 : decode cX8_readOften 8 = .ok (.iadd, 1) := by decide +kernel
theorem dX8_readOften_9 : decode cX8_readOften 9 = .ok (.if_icmp .ge 20, 3) := by decide +kernel
theorem dX8_readOften_12 : decode cX8_readOften 12 = .ok (.aload_n 0, 1) := by decide +kernel
theorem dX8_readOften_13 : decode cX8_readOften 13 = .ok (.iload_n 2, 1) := by decide +kernel
theorem dX8_readOften_14 : decode cX8_readOften 14 = .ok (.iconst 0, 1) := by decide +kernel
theorem dX8_readOften_15 : decode cX8_readOften 15 = .ok (.bipush 9, 2) := by decide +kernel
theorem dX8_readOften_17 : decode cX8_readOften 17 = .ok (.invokevirtual 95, 3) := by decide +kernel
theorem dX8_readOften_20 : decode cX8_readOften 20 = .ok (.ifCond .eq 9, 3) := by decide +kernel
theorem dX8_readOften_23 : decode cX8_readOften 23 = .ok (.iinc 2 1, 3) := by decide +kernel
theorem dX8_readOften_26 : decode cX8_readOften 26 = .ok (.goto (-24), 3) := by decide +kernel
theorem dX8_readOften_29 : decode cX8_readOften 29 = .ok (.aload_n 0, 1) := by decide +kernel
theorem dX8_readOften_30 : decode cX8_readOften 30 = .ok (.iload_n 2, 1) := by decide +kernel
theorem dX8_readOften_31 : decode cX8_readOften 31 = .ok (.putfield 92, 3) := by decide +kernel
theorem dX8_readOften_34 : decode cX8_readOften 34 = .ok (.aload_n 0, 1) := by decide +kernel
theorem dX8_readOften_35 : decode cX8_readOften 35 = .ok (.iload_n 2, 1) := by decide +kernel
theorem dX8_readOften_36 : decode cX8_readOften 36 = .ok (.iload_n 1, 1) := by decide +kernel
theorem dX8_readOften_37 : decode cX8_readOften 37 = .ok (.aload_n 0, 1) := by decide +kernel
theorem dX8_readOften_38 : decode cX8_readOften 38 = .ok (.getfield 85, 3) := by decide +kernel
theorem dX8_readOften_41 : decode cX8_readOften 41 = .ok (.iadd, 1) := by decide +kernel
theorem dX8_readOften_42 : decode cX8_readOften 42 = .ok (.if_icmp .ne 15, 3) := by decide +kernel
theorem dX8_readOften_45 : decode cX8_readOften 45 = .ok (.iload_n 2, 1) := by decide +kernel
theorem dX8_readOften_46 : decode cX8_readOften 46 = .ok (.aload_n 0, 1) := by decide +kernel
theorem dX8_readOften_47 : decode cX8_readOften 47 = .ok (.getfield 81, 3) := by decide +kernel
theorem dX8_readOften_50 : decode cX8_readOften 50 = .ok (.if_icmp .ne 7, 3) := by decide +kernel
theorem dX8_readOften_53 : decode cX8_readOften 53 = .ok (.iconst 1, 1) := by decide +kernel
theorem dX8_readOften_54 : decode cX8_readOften 54 = .ok (.goto 4, 3) := by decide +kernel
theorem dX8_readOften_57 : decode cX8_readOften 57 = .ok (.iconst 0, 1) := by decide +kernel
theorem dX8_readOften_58 : decode cX8_readOften 58 = .ok (.putfield 88, 3) := by decide +kernel
theorem dX8_readOften_61 : decode cX8_readOften 61 = .ok (.return_, 1) := by decide +kernel
set_option maxRecDepth 20000 in
theorem ggX8_fault_X8_read : GoodIn wsX8_fault wsX8_read := goodIn_r _ [6, 7, 8, 1, 9, 10, 11, 5, 12, 13, 14, 15, 16, 17, 18, 19, 20, 21, 22, 23, 24, 25, 26, 27, 28, 29, 30, 31, 32, 33, 34, 35, 36, 37, 38, 39, 40, 41, 42, 43, 44, 45, 46, 47, 48, 49, 50, 51, 52, 53, 54, 55, 56, 57, 58, 59, 60, 61, 62, 63, 64, 65, 66, 67] (by decide +kernel) (by decide +kernel)
set_option maxRecDepth 20000 in
theorem gX8_fault_X8_read : GoodIn wsX8_fault (wsV RX8 106 RX8 yX8_read wsX8_read) := goodIn_app (goodIn_of _ (by decide +kernel)) ggX8_fault_X8_read
theorem dX8_fault_0 : decode cX8_fault 0 = .ok (.aload_n 0, 1) := by decide +kernel
theorem dX8_fault_1 : decode cX8_fault 1 = .ok (.invokevirtual 106, 3) := by decide +kernel
theorem dX8_fault_4 : decode cX8_fault 4 = .ok (.aload_n 0, 1) := by decide +kernel
theorem dX8_fault_5 : decode cX8_fault 5 = .ok (.getfield 92, 3) := by decide +kernel
theorem dX8_fault_8 : decode cX8_fault 8 = .ok (.ireturn, 1) := by decide +kernel
set_option maxRecDepth 20000 in
theorem ggX8_floor_X8_read : GoodIn wsX8_floor wsX8_read := goodIn_r _ [19, 2, 1, 20, 21, 22, 23, 18, 24, 14, 5, 25, 26, 27, 28, 29, 30, 31, 32, 33, 34, 35, 44, 45, 46, 47, 48, 49, 50, 51, 52, 53, 54, 55, 56, 57, 58, 59, 60, 61, 62, 63, 64, 65, 66, 67, 68, 69, 70, 71, 72, 73, 74, 75, 76, 77, 78, 79, 80, 81, 82, 83, 84, 85] (by decide +kernel) (by decide +kernel)
set_option maxRecDepth 20000 in
theorem gX8_floor_X8_read : GoodIn wsX8_floor (wsV RX8 106 RX8 yX8_read wsX8_read) := goodIn_app (goodIn_of _ (by decide +kernel)) ggX8_floor_X8_read
set_option maxRecDepth 20000 in
theorem ggX8_floor_X8_empty : GoodIn wsX8_floor wsX8_empty := goodIn_r _ [39, 40, 41, 42, 43, 44, 45, 46, 47, 48, 49, 50, 51, 52, 53, 54, 55, 56, 57, 58, 59, 60, 61, 62, 63, 64, 65, 66, 67, 68, 69, 70, 71, 72, 73, 74, 75, 76, 77, 78, 79, 80, 81, 82, 83, 84, 85] (by decide +kernel) (by decide +kernel)
set_option maxRecDepth 20000 in
theorem gX8_floor_X8_empty : GoodIn wsX8_floor (wsV RX8 112 RX8 yX8_empty wsX8_empty) := goodIn_app (goodIn_of _ (by decide +kernel)) ggX8_floor_X8_empty
theorem dX8_floor_0 : decode cX8_floor 0 = .ok (.aload_n 0, 1) := by decide +kernel
theorem dX8_floor_1 : decode cX8_floor 1 = .ok (.invokevirtual 106, 3) := by decide +kernel
theorem dX8_floor_4 : decode cX8_floor 4 = .ok (.aload_n 0, 1) := by decide +kernel
theorem dX8_floor_5 : decode cX8_floor 5 = .ok (.getfield 88, 3) := by decide +kernel
theorem dX8_floor_8 : decode cX8_floor 8 = .ok (.ifCond .ne 6, 3) := by decide +kernel
theorem dX8_floor_11 : decode cX8_floor 11 = .ok (.bipush (-103), 2) := by decide +kernel
theorem dX8_floor_13 : decode cX8_floor 13 = .ok (.ireturn, 1) := by decide +kernel
theorem dX8_floor_14 : decode cX8_floor 14 = .ok (.aload_n 0, 1) := by decide +kernel
theorem dX8_floor_15 : decode cX8_floor 15 = .ok (.aload_n 0, 1) := by decide +kernel
theorem dX8_floor_16 : decode cX8_floor 16 = .ok (.getfield 85, 3) := by decide +kernel
theorem dX8_floor_19 : decode cX8_floor 19 = .ok (.putfield 109, 3) := by decide +kernel
theorem dX8_floor_22 : decode cX8_floor 22 = .ok (.iconst 0, 1) := by decide +kernel
theorem dX8_floor_23 : decode cX8_floor 23 = .ok (.istore_n 1, 1) := by decide +kernel
theorem dX8_floor_24 : decode cX8_floor 24 = .ok (.iload_n 1, 1) := by decide +kernel
theorem dX8_floor_25 : decode cX8_floor 25 = .ok (.aload_n 0, 1) := by decide +kernel
theorem dX8_floor_26 : decode cX8_floor 26 = .ok (.getfield 109, 3) := by decide +kernel
theorem dX8_floor_29 : decode cX8_floor 29 = .ok (.if_icmp .ge 79, 3) := by decide +kernel
theorem dX8_floor_32 : decode cX8_floor 32 = .ok (.aload_n 0, 1) := by decide +kernel
theorem dX8_floor_33 : decode cX8_floor 33 = .ok (.getfield 7, 3) := by decide +kernel
theorem dX8_floor_36 : decode cX8_floor 36 = .ok (.iload_n 1, 1) := by decide +kernel
theorem dX8_floor_37 : decode cX8_floor 37 = .ok (.aload_n 0, 1) := by decide +kernel
theorem dX8_floor_38 : decode cX8_floor 38 = .ok (.getfield 46, 3) := by decide +kernel
theorem dX8_floor_41 : decode cX8_floor 41 = .ok (.iconst 3, 1) := by decide +kernel
theorem dX8_floor_42 : decode cX8_floor 42 = .ok (.iload_n 1, 1) := by decide +kernel
theorem dX8_floor_43 : decode cX8_floor 43 = .ok (.imul, 1) := by decide +kernel
theorem dX8_floor_44 : decode cX8_floor 44 = .ok (.baload, 1) := by decide +kernel
theorem dX8_floor_45 : decode cX8_floor 45 = .ok (.bipush 48, 2) := by decide +kernel
theorem dX8_floor_47 : decode cX8_floor 47 = .ok (.isub, 1) := by decide +kernel
theorem dX8_floor_48 : decode cX8_floor 48 = .ok (.iastore, 1) := by decide +kernel
theorem dX8_floor_49 : decode cX8_floor 49 = .ok (.aload_n 0, 1) := by decide +kernel
theorem dX8_floor_50 : decode cX8_floor 50 = .ok (.getfield 13, 3) := by decide +kernel
theorem dX8_floor_53 : decode cX8_floor 53 = .ok (.iload_n 1, 1) := by decide +kernel
theorem dX8_floor_54 : decode cX8_floor 54 = .ok (.aload_n 0, 1) := by decide +kernel
theorem dX8_floor_55 : decode cX8_floor 55 = .ok (.getfield 46, 3) := by decide +kernel
theorem dX8_floor_58 : decode cX8_floor 58 = .ok (.iconst 3, 1) := by decide +kernel
theorem dX8_floor_59 : decode cX8_floor 59 = .ok (.iload_n 1, 1) := by decide +kernel
theorem dX8_floor_60 : decode cX8_floor 60 = .ok (.imul, 1) := by decide +kernel
theorem dX8_floor_61 : decode cX8_floor 61 = .ok (.iconst 1, 1) := by decide +kernel
theorem dX8_floor_62 : decode cX8_floor 62 = .ok (.iadd, 1) := by decide +kernel
theorem dX8_floor_63 : decode cX8_floor 63 = .ok (.baload, 1) := by decide +kernel
theorem dX8_floor_64 : decode cX8_floor 64 = .ok (.bipush 48, 2) := by decide +kernel
theorem dX8_floor_66 : decode cX8_floor 66 = .ok (.isub, 1) := by decide +kernel
theorem dX8_floor_67 : decode cX8_floor 67 = .ok (.iastore, 1) := by decide +kernel
theorem dX8_floor_68 : decode cX8_floor 68 = .ok (.aload_n 0, 1) := by decide +kernel
theorem dX8_floor_69 : decode cX8_floor 69 = .ok (.getfield 16, 3) := by decide +kernel
theorem dX8_floor_72 : decode cX8_floor 72 = .ok (.iload_n 1, 1) := by decide +kernel
theorem dX8_floor_73 : decode cX8_floor 73 = .ok (.aload_n 0, 1) := by decide +kernel
theorem dX8_floor_74 : decode cX8_floor 74 = .ok (.getfield 46, 3) := by decide +kernel
theorem dX8_floor_77 : decode cX8_floor 77 = .ok (.iconst 3, 1) := by decide +kernel
theorem dX8_floor_78 : decode cX8_floor 78 = .ok (.aload_n 0, 1) := by decide +kernel
theorem dX8_floor_79 : decode cX8_floor 79 = .ok (.getfield 109, 3) := by decide +kernel
theorem dX8_floor_82 : decode cX8_floor 82 = .ok (.imul, 1) := by decide +kernel
theorem dX8_floor_83 : decode cX8_floor 83 = .ok (.iload_n 1, 1) := by decide +kernel
theorem dX8_floor_84 : decode cX8_floor 84 = .ok (.iadd, 1) := by decide +kernel
theorem dX8_floor_85 : decode cX8_floor 85 = .ok (.baload, 1) := by decide +kernel
theorem dX8_floor_86 : decode cX8_floor 86 = .ok (.bipush 48, 2) := by decide +kernel
theorem dX8_floor_88 : decode cX8_floor 88 = .ok (.isub, 1) := by decide +kernel
theorem dX8_floor_89 : decode cX8_floor 89 = .ok (.iastore, 1) := by decide +kernel
theorem dX8_floor_90 : decode cX8_floor 90 = .ok (.aload_n 0, 1) := by decide +kernel
theorem dX8_floor_91 : decode cX8_floor 91 = .ok (.getfield 19, 3) := by decide +kernel
theorem dX8_floor_94 : decode cX8_floor 94 = .ok (.iload_n 1, 1) := by decide +kernel
theorem dX8_floor_95 : decode cX8_floor 95 = .ok (.iload_n 1, 1) := by decide +kernel
theorem dX8_floor_96 : decode cX8_floor 96 = .ok (.iastore, 1) := by decide +kernel
theorem dX8_floor_97 : decode cX8_floor 97 = .ok (.aload_n 0, 1) := by decide +kernel
theorem dX8_floor_98 : decode cX8_floor 98 = .ok (.iload_n 1, 1) := by decide +kernel
theorem dX8_floor_99 : decode cX8_floor 99 = .ok (.invokevirtual 112, 3) := by decide +kernel
theorem dX8_floor_102 : decode cX8_floor 102 = .ok (.iinc 1 1, 3) := by decide +kernel
theorem dX8_floor_105 : decode cX8_floor 105 = .ok (.goto (-81), 3) := by decide +kernel
theorem dX8_floor_108 : decode cX8_floor 108 = .ok (.aload_n 0, 1) := by decide +kernel
theorem dX8_floor_109 : decode cX8_floor 109 = .ok (.dup, 1) := by decide +kernel
theorem dX8_floor_110 : decode cX8_floor 110 = .ok (.getfield 115, 3) := by decide +kernel
theorem dX8_floor_113 : decode cX8_floor 113 = .ok (.iconst 1, 1) := by decide +kernel
theorem dX8_floor_114 : decode cX8_floor 114 = .ok (.iadd, 1) := by decide +kernel
theorem dX8_floor_115 : decode cX8_floor 115 = .ok (.putfield 115, 3) := by decide +kernel
theorem dX8_floor_118 : decode cX8_floor 118 = .ok (.aload_n 0, 1) := by decide +kernel
theorem dX8_floor_119 : decode cX8_floor 119 = .ok (.iconst 0, 1) := by decide +kernel
theorem dX8_floor_120 : decode cX8_floor 120 = .ok (.putfield 118, 3) := by decide +kernel
theorem dX8_floor_123 : decode cX8_floor 123 = .ok (.aload_n 0, 1) := by decide +kernel
theorem dX8_floor_124 : decode cX8_floor 124 = .ok (.iconst 0, 1) := by decide +kernel
theorem dX8_floor_125 : decode cX8_floor 125 = .ok (.putfield 121, 3) := by decide +kernel
theorem dX8_floor_128 : decode cX8_floor 128 = .ok (.aload_n 0, 1) := by decide +kernel
theorem dX8_floor_129 : decode cX8_floor 129 = .ok (.iconst 0, 1) := by decide +kernel
theorem dX8_floor_130 : decode cX8_floor 130 = .ok (.putfield 124, 3) := by decide +kernel
theorem dX8_floor_133 : decode cX8_floor 133 = .ok (.aload_n 0, 1) := by decide +kernel
theorem dX8_floor_134 : decode cX8_floor 134 = .ok (.iconst 0, 1) := by decide +kernel
theorem dX8_floor_135 : decode cX8_floor 135 = .ok (.putfield 127, 3) := by decide +kernel
theorem dX8_floor_138 : decode cX8_floor 138 = .ok (.aload_n 0, 1) := by decide +kernel
theorem dX8_floor_139 : decode cX8_floor 139 = .ok (.iconst 0, 1) := by decide +kernel
theorem dX8_floor_140 : decode cX8_floor 140 = .ok (.putfield 81, 3) := by decide +kernel
theorem dX8_floor_143 : decode cX8_floor 143 = .ok (.aload_n 0, 1) := by decide +kernel
theorem dX8_floor_144 : decode cX8_floor 144 = .ok (.getfield 109, 3) := by decide +kernel
theorem dX8_floor_147 : decode cX8_floor 147 = .ok (.ireturn, 1) := by decide +kernel
theorem dX8_empty_0 : decode cX8_empty 0 = .ok (.aload_n 0, 1) := by decide +kernel
theorem dX8_empty_1 : decode cX8_empty 1 = .ok (.getfield 22, 3) := by decide +kernel
theorem dX8_empty_4 : decode cX8_empty 4 = .ok (.iload_n 1, 1) := by decide +kernel
theorem dX8_empty_5 : decode cX8_empty 5 = .ok (.iconst 0, 1) := by decide +kernel
theorem dX8_empty_6 : decode cX8_empty 6 = .ok (.iastore, 1) := by decide +kernel
theorem dX8_empty_7 : decode cX8_empty 7 = .ok (.aload_n 0, 1) := by decide +kernel
theorem dX8_empty_8 : decode cX8_empty 8 = .ok (.getfield 25, 3) := by decide +kernel
theorem dX8_empty_11 : decode cX8_empty 11 = .ok (.iload_n 1, 1) := by decide +kernel
theorem dX8_empty_12 : decode cX8_empty 12 = .ok (.iconst 0, 1) := by decide +kernel
theorem dX8_empty_13 : decode cX8_empty 13 = .ok (.iastore, 1) := by decide +kernel
theorem dX8_empty_14 : decode cX8_empty 14 = .ok (.aload_n 0, 1) := by decide +kernel
theorem dX8_empty_15 : decode cX8_empty 15 = .ok (.getfield 28, 3) := by decide +kernel
theorem dX8_empty_18 : decode cX8_empty 18 = .ok (.iload_n 1, 1) := by decide +kernel
theorem dX8_empty_19 : decode cX8_empty 19 = .ok (.iconst 0, 1) := by decide +kernel
theorem dX8_empty_20 : decode cX8_empty 20 = .ok (.iastore, 1) := by decide +kernel
theorem dX8_empty_21 : decode cX8_empty 21 = .ok (.aload_n 0, 1) := by decide +kernel
theorem dX8_empty_22 : decode cX8_empty 22 = .ok (.getfield 31, 3) := by decide +kernel
theorem dX8_empty_25 : decode cX8_empty 25 = .ok (.iload_n 1, 1) := by decide +kernel
theorem dX8_empty_26 : decode cX8_empty 26 = .ok (.iconst 0, 1) := by decide +kernel
theorem dX8_empty_27 : decode cX8_empty 27 = .ok (.iastore, 1) := by decide +kernel
theorem dX8_empty_28 : decode cX8_empty 28 = .ok (.return_, 1) := by decide +kernel
set_option maxRecDepth 20000 in
theorem ggX8_isHook_X8_within : GoodIn wsX8_isHook wsX8_within := goodIn_r _ [5] (by decide +kernel) (by decide +kernel)
set_option maxRecDepth 20000 in
theorem gX8_isHook_X8_within : GoodIn wsX8_isHook (va_wsS RX8 77 yX8_within wsX8_within) := goodIn_app (goodIn_of _ (by decide +kernel)) ggX8_isHook_X8_within
theorem dX8_isHook_0 : decode cX8_isHook 0 = .ok (.iload_n 1, 1) := by decide +kernel
theorem dX8_isHook_1 : decode cX8_isHook 1 = .ok (.iconst 0, 1) := by decide +kernel
theorem dX8_isHook_2 : decode cX8_isHook 2 = .ok (.aload_n 0, 1) := by decide +kernel
theorem dX8_isHook_3 : decode cX8_isHook 3 = .ok (.getfield 109, 3) := by decide +kernel
theorem dX8_isHook_6 : decode cX8_isHook 6 = .ok (.iconst 1, 1) := by decide +kernel
theorem dX8_isHook_7 : decode cX8_isHook 7 = .ok (.isub, 1) := by decide +kernel
theorem dX8_isHook_8 : decode cX8_isHook 8 = .ok (.invokestatic 77, 3) := by decide +kernel
theorem dX8_isHook_11 : decode cX8_isHook 11 = .ok (.ireturn, 1) := by decide +kernel
theorem dX8_hookNow_0 : decode cX8_hookNow 0 = .ok (.aload_n 0, 1) := by decide +kernel
theorem dX8_hookNow_1 : decode cX8_hookNow 1 = .ok (.getfield 19, 3) := by decide +kernel
theorem dX8_hookNow_4 : decode cX8_hookNow 4 = .ok (.iload_n 1, 1) := by decide +kernel
theorem dX8_hookNow_5 : decode cX8_hookNow 5 = .ok (.iaload, 1) := by decide +kernel
theorem dX8_hookNow_6 : decode cX8_hookNow 6 = .ok (.istore_n 3, 1) := by decide +kernel
theorem dX8_hookNow_7 : decode cX8_hookNow 7 = .ok (.iload_n 2, 1) := by decide +kernel
theorem dX8_hookNow_8 : decode cX8_hookNow 8 = .ok (.tableswitch 77 0 5 #[40, 47, 54, 56, 63, 70], 40) := by decide +kernel
theorem dX8_hookNow_48 : decode cX8_hookNow 48 = .ok (.aload_n 0, 1) := by decide +kernel
theorem dX8_hookNow_49 : decode cX8_hookNow 49 = .ok (.getfield 7, 3) := by decide +kernel
theorem dX8_hookNow_52 : decode cX8_hookNow 52 = .ok (.iload_n 1, 1) := by decide +kernel
theorem dX8_hookNow_53 : decode cX8_hookNow 53 = .ok (.iaload, 1) := by decide +kernel
theorem dX8_hookNow_54 : decode cX8_hookNow 54 = .ok (.ireturn, 1) := by decide +kernel
theorem dX8_hookNow_55 : decode cX8_hookNow 55 = .ok (.aload_n 0, 1) := by decide +kernel
theorem dX8_hookNow_56 : decode cX8_hookNow 56 = .ok (.getfield 13, 3) := by decide +kernel
theorem dX8_hookNow_59 : decode cX8_hookNow 59 = .ok (.iload_n 1, 1) := by decide +kernel
theorem dX8_hookNow_60 : decode cX8_hookNow 60 = .ok (.iaload, 1) := by decide +kernel
theorem dX8_hookNow_61 : decode cX8_hookNow 61 = .ok (.ireturn, 1) := by decide +kernel
theorem dX8_hookNow_62 : decode cX8_hookNow 62 = .ok (.iload_n 3, 1) := by decide +kernel
theorem dX8_hookNow_63 : decode cX8_hookNow 63 = .ok (.ireturn, 1) := by decide +kernel
theorem dX8_hookNow_64 : decode cX8_hookNow 64 = .ok (.aload_n 0, 1) := by decide +kernel
theorem dX8_hookNow_65 : decode cX8_hookNow 65 = .ok (.getfield 22, 3) := by decide +kernel
theorem dX8_hookNow_68 : decode cX8_hookNow 68 = .ok (.iload_n 3, 1) := by decide +kernel
theorem dX8_hookNow_69 : decode cX8_hookNow 69 = .ok (.iaload, 1) := by decide +kernel
theorem dX8_hookNow_70 : decode cX8_hookNow 70 = .ok (.ireturn, 1) := by decide +kernel
theorem dX8_hookNow_71 : decode cX8_hookNow 71 = .ok (.aload_n 0, 1) := by decide +kernel
theorem dX8_hookNow_72 : decode cX8_hookNow 72 = .ok (.getfield 25, 3) := by decide +kernel
theorem dX8_hookNow_75 : decode cX8_hookNow 75 = .ok (.iload_n 3, 1) := by decide +kernel
theorem dX8_hookNow_76 : decode cX8_hookNow 76 = .ok (.iaload, 1) := by decide +kernel
theorem dX8_hookNow_77 : decode cX8_hookNow 77 = .ok (.ireturn, 1) := by decide +kernel
theorem dX8_hookNow_78 : decode cX8_hookNow 78 = .ok (.aload_n 0, 1) := by decide +kernel
theorem dX8_hookNow_79 : decode cX8_hookNow 79 = .ok (.getfield 28, 3) := by decide +kernel
theorem dX8_hookNow_82 : decode cX8_hookNow 82 = .ok (.iload_n 3, 1) := by decide +kernel
theorem dX8_hookNow_83 : decode cX8_hookNow 83 = .ok (.iaload, 1) := by decide +kernel
theorem dX8_hookNow_84 : decode cX8_hookNow 84 = .ok (.ireturn, 1) := by decide +kernel
theorem dX8_hookNow_85 : decode cX8_hookNow 85 = .ok (.aload_n 0, 1) := by decide +kernel
theorem dX8_hookNow_86 : decode cX8_hookNow 86 = .ok (.getfield 16, 3) := by decide +kernel
theorem dX8_hookNow_89 : decode cX8_hookNow 89 = .ok (.iload_n 3, 1) := by decide +kernel
theorem dX8_hookNow_90 : decode cX8_hookNow 90 = .ok (.iaload, 1) := by decide +kernel
theorem dX8_hookNow_91 : decode cX8_hookNow 91 = .ok (.ireturn, 1) := by decide +kernel
set_option maxRecDepth 20000 in
theorem ggX8_hook_X8_isHook : GoodIn wsX8_hook wsX8_isHook := goodIn_r _ [5, 6, 7, 8, 4, 9, 21, 22, 23, 24, 25, 26, 27, 28, 29, 30, 31, 32, 33, 34, 35, 36, 37, 38, 39, 40, 41, 42, 43, 44, 45, 46, 47, 48, 49, 50, 51, 52, 53, 54, 55, 56, 57, 58, 59, 60, 61, 62] (by decide +kernel) (by decide +kernel)
set_option maxRecDepth 20000 in
theorem gX8_hook_X8_isHook : GoodIn wsX8_hook (wsV RX8 130 RX8 yX8_isHook wsX8_isHook) := goodIn_app (goodIn_of _ (by decide +kernel)) ggX8_hook_X8_isHook
set_option maxRecDepth 20000 in
theorem ggX8_hook_X8_within : GoodIn wsX8_hook wsX8_within := goodIn_r _ [9] (by decide +kernel) (by decide +kernel)
set_option maxRecDepth 20000 in
theorem gX8_hook_X8_within : GoodIn wsX8_hook (va_wsS RX8 77 yX8_within wsX8_within) := goodIn_app (goodIn_of _ (by decide +kernel)) ggX8_hook_X8_within
set_option maxRecDepth 20000 in
theorem ggX8_hook_X8_hookNow : GoodIn wsX8_hook wsX8_hookNow := goodIn_r _ [13, 14, 15, 16, 17, 18, 19, 20, 21, 22, 23, 24, 25, 26, 27, 28, 29, 30, 31, 32, 33, 34, 35, 36, 37, 38, 39, 40, 41, 42, 43, 44, 45, 46, 47, 48, 49, 50, 51, 52, 53, 54, 55, 56, 57, 58, 59, 60, 61, 62] (by decide +kernel) (by decide +kernel)
set_option maxRecDepth 20000 in
theorem gX8_hook_X8_hookNow : GoodIn wsX8_hook (wsV RX8 134 RX8 yX8_hookNow wsX8_hookNow) := goodIn_app (goodIn_of _ (by decide +kernel)) ggX8_hook_X8_hookNow
theorem dX8_hook_0 : decode cX8_hook 0 = .ok (.aload_n 0, 1) := by decide +kernel
theorem dX8_hook_1 : decode cX8_hook 1 = .ok (.iload_n 1, 1) := by decide +kernel
theorem dX8_hook_2 : decode cX8_hook 2 = .ok (.invokevirtual 130, 3) := by decide +kernel
theorem dX8_hook_5 : decode cX8_hook 5 = .ok (.ifCond .ne 8, 3) := by decide +kernel
theorem dX8_hook_8 : decode cX8_hook 8 = .ok (.bipush (-101), 2) := by decide +kernel
theorem dX8_hook_10 : decode cX8_hook 10 = .ok (.goto 24, 3) := by decide +kernel
theorem dX8_hook_13 : decode cX8_hook 13 = .ok (.iload_n 2, 1) := by decide +kernel
theorem dX8_hook_14 : decode cX8_hook 14 = .ok (.iconst 0, 1) := by decide +kernel
theorem dX8_hook_15 : decode cX8_hook 15 = .ok (.bipush 6, 2) := by decide +kernel
theorem dX8_hook_17 : decode cX8_hook 17 = .ok (.invokestatic 77, 3) := by decide +kernel
theorem dX8_hook_20 : decode cX8_hook 20 = .ok (.ifCond .eq 12, 3) := by decide +kernel
theorem dX8_hook_23 : decode cX8_hook 23 = .ok (.aload_n 0, 1) := by decide +kernel
theorem dX8_hook_24 : decode cX8_hook 24 = .ok (.iload_n 1, 1) := by decide +kernel
theorem dX8_hook_25 : decode cX8_hook 25 = .ok (.iload_n 2, 1) := by decide +kernel
theorem dX8_hook_26 : decode cX8_hook 26 = .ok (.invokevirtual 134, 3) := by decide +kernel
theorem dX8_hook_29 : decode cX8_hook 29 = .ok (.goto 5, 3) := by decide +kernel
theorem dX8_hook_32 : decode cX8_hook 32 = .ok (.bipush (-102), 2) := by decide +kernel
theorem dX8_hook_34 : decode cX8_hook 34 = .ok (.ireturn, 1) := by decide +kernel
theorem dX8_gripOf_0 : decode cX8_gripOf 0 = .ok (.iload_n 0, 1) := by decide +kernel
theorem dX8_gripOf_1 : decode cX8_gripOf 1 = .ok (.tableswitch 38 1 4 #[31, 33, 36, 33], 31) := by decide +kernel
theorem dX8_gripOf_32 : decode cX8_gripOf 32 = .ok (.iconst 1, 1) := by decide +kernel
theorem dX8_gripOf_33 : decode cX8_gripOf 33 = .ok (.ireturn, 1) := by decide +kernel
theorem dX8_gripOf_34 : decode cX8_gripOf 34 = .ok (.bipush (-2), 2) := by decide +kernel
theorem dX8_gripOf_36 : decode cX8_gripOf 36 = .ok (.ireturn, 1) := by decide +kernel
theorem dX8_gripOf_37 : decode cX8_gripOf 37 = .ok (.iconst (-1), 1) := by decide +kernel
theorem dX8_gripOf_38 : decode cX8_gripOf 38 = .ok (.ireturn, 1) := by decide +kernel
theorem dX8_gripOf_39 : decode cX8_gripOf 39 = .ok (.iconst 0, 1) := by decide +kernel
theorem dX8_gripOf_40 : decode cX8_gripOf 40 = .ok (.ireturn, 1) := by decide +kernel
set_option maxRecDepth 20000 in
theorem ggX8_parcel_X8_within : GoodIn wsX8_parcel wsX8_within := goodIn_r _ [7] (by decide +kernel) (by decide +kernel)
set_option maxRecDepth 20000 in
theorem gX8_parcel_X8_within : GoodIn wsX8_parcel (va_wsS RX8 77 yX8_within wsX8_within) := goodIn_app (goodIn_of _ (by decide +kernel)) ggX8_parcel_X8_within
set_option maxRecDepth 20000 in
theorem ggX8_parcel_X8_isHook : GoodIn wsX8_parcel wsX8_isHook := goodIn_r _ [11, 12, 4, 5, 6, 7, 13, 14, 15, 16, 17, 18, 19, 20, 21, 22, 23, 24, 25, 26, 27, 28, 29, 30, 31, 32, 33, 34, 35, 36, 37, 38, 39, 40, 41, 42, 43, 44, 45, 46, 47, 48, 49, 50, 51, 52, 53, 54] (by decide +kernel) (by decide +kernel)
set_option maxRecDepth 20000 in
theorem gX8_parcel_X8_isHook : GoodIn wsX8_parcel (wsV RX8 130 RX8 yX8_isHook wsX8_isHook) := goodIn_app (goodIn_of _ (by decide +kernel)) ggX8_parcel_X8_isHook
theorem dX8_parcel_0 : decode cX8_parcel 0 = .ok (.iload_n 1, 1) := by decide +kernel
theorem dX8_parcel_1 : decode cX8_parcel 1 = .ok (.iconst 0, 1) := by decide +kernel
theorem dX8_parcel_2 : decode cX8_parcel 2 = .ok (.iconst 4, 1) := by decide +kernel
theorem dX8_parcel_3 : decode cX8_parcel 3 = .ok (.invokestatic 77, 3) := by decide +kernel
theorem dX8_parcel_6 : decode cX8_parcel 6 = .ok (.ifCond .ne 6, 3) := by decide +kernel
theorem dX8_parcel_9 : decode cX8_parcel 9 = .ok (.bipush (-102), 2) := by decide +kernel
theorem dX8_parcel_11 : decode cX8_parcel 11 = .ok (.ireturn, 1) := by decide +kernel
theorem dX8_parcel_12 : decode cX8_parcel 12 = .ok (.aload_n 0, 1) := by decide +kernel
theorem dX8_parcel_13 : decode cX8_parcel 13 = .ok (.iload_n 2, 1) := by decide +kernel
theorem dX8_parcel_14 : decode cX8_parcel 14 = .ok (.invokevirtual 130, 3) := by decide +kernel
theorem dX8_parcel_17 : decode cX8_parcel 17 = .ok (.ifCond .ne 6, 3) := by decide +kernel
theorem dX8_parcel_20 : decode cX8_parcel 20 = .ok (.bipush (-101), 2) := by decide +kernel
theorem dX8_parcel_22 : decode cX8_parcel 22 = .ok (.ireturn, 1) := by decide +kernel
theorem dX8_parcel_23 : decode cX8_parcel 23 = .ok (.aload_n 0, 1) := by decide +kernel
theorem dX8_parcel_24 : decode cX8_parcel 24 = .ok (.getfield 118, 3) := by decide +kernel
theorem dX8_parcel_27 : decode cX8_parcel 27 = .ok (.bipush 8, 2) := by decide +kernel
theorem dX8_parcel_29 : decode cX8_parcel 29 = .ok (.if_icmp .ne 6, 3) := by decide +kernel
theorem dX8_parcel_32 : decode cX8_parcel 32 = .ok (.bipush (-104), 2) := by decide +kernel
theorem dX8_parcel_34 : decode cX8_parcel 34 = .ok (.ireturn, 1) := by decide +kernel
theorem dX8_parcel_35 : decode cX8_parcel 35 = .ok (.aload_n 0, 1) := by decide +kernel
theorem dX8_parcel_36 : decode cX8_parcel 36 = .ok (.getfield 34, 3) := by decide +kernel
theorem dX8_parcel_39 : decode cX8_parcel 39 = .ok (.aload_n 0, 1) := by decide +kernel
theorem dX8_parcel_40 : decode cX8_parcel 40 = .ok (.getfield 118, 3) := by decide +kernel
theorem dX8_parcel_43 : decode cX8_parcel 43 = .ok (.iload_n 1, 1) := by decide +kernel
theorem dX8_parcel_44 : decode cX8_parcel 44 = .ok (.iastore, 1) := by decide +kernel
theorem dX8_parcel_45 : decode cX8_parcel 45 = .ok (.aload_n 0, 1) := by decide +kernel
theorem dX8_parcel_46 : decode cX8_parcel 46 = .ok (.getfield 37, 3) := by decide +kernel
theorem dX8_parcel_49 : decode cX8_parcel 49 = .ok (.aload_n 0, 1) := by decide +kernel
theorem dX8_parcel_50 : decode cX8_parcel 50 = .ok (.getfield 118, 3) := by decide +kernel
theorem dX8_parcel_53 : decode cX8_parcel 53 = .ok (.iload_n 2, 1) := by decide +kernel
theorem dX8_parcel_54 : decode cX8_parcel 54 = .ok (.iastore, 1) := by decide +kernel
theorem dX8_parcel_55 : decode cX8_parcel 55 = .ok (.aload_n 0, 1) := by decide +kernel
theorem dX8_parcel_56 : decode cX8_parcel 56 = .ok (.dup, 1) := by decide +kernel
theorem dX8_parcel_57 : decode cX8_parcel 57 = .ok (.getfield 118, 3) := by decide +kernel
theorem dX8_parcel_60 : decode cX8_parcel 60 = .ok (.iconst 1, 1) := by decide +kernel
theorem dX8_parcel_61 : decode cX8_parcel 61 = .ok (.iadd, 1) := by decide +kernel
theorem dX8_parcel_62 : decode cX8_parcel 62 = .ok (.putfield 118, 3) := by decide +kernel
theorem dX8_parcel_65 : decode cX8_parcel 65 = .ok (.aload_n 0, 1) := by decide +kernel
theorem dX8_parcel_66 : decode cX8_parcel 66 = .ok (.getfield 118, 3) := by decide +kernel
theorem dX8_parcel_69 : decode cX8_parcel 69 = .ok (.ireturn, 1) := by decide +kernel
set_option maxRecDepth 20000 in
theorem ggX8_isPlace_X8_within : GoodIn wsX8_isPlace wsX8_within := goodIn_r _ [5] (by decide +kernel) (by decide +kernel)
set_option maxRecDepth 20000 in
theorem gX8_isPlace_X8_within : GoodIn wsX8_isPlace (va_wsS RX8 77 yX8_within wsX8_within) := goodIn_app (goodIn_of _ (by decide +kernel)) ggX8_isPlace_X8_within
theorem dX8_isPlace_0 : decode cX8_isPlace 0 = .ok (.iload_n 1, 1) := by decide +kernel
theorem dX8_isPlace_1 : decode cX8_isPlace 1 = .ok (.iconst 0, 1) := by decide +kernel
theorem dX8_isPlace_2 : decode cX8_isPlace 2 = .ok (.aload_n 0, 1) := by decide +kernel
theorem dX8_isPlace_3 : decode cX8_isPlace 3 = .ok (.getfield 118, 3) := by decide +kernel
theorem dX8_isPlace_6 : decode cX8_isPlace 6 = .ok (.iconst 1, 1) := by decide +kernel
theorem dX8_isPlace_7 : decode cX8_isPlace 7 = .ok (.isub, 1) := by decide +kernel
theorem dX8_isPlace_8 : decode cX8_isPlace 8 = .ok (.invokestatic 77, 3) := by decide +kernel
theorem dX8_isPlace_11 : decode cX8_isPlace 11 = .ok (.ireturn, 1) := by decide +kernel
set_option maxRecDepth 20000 in
theorem ggX8_beltNow_X8_gripOf : GoodIn wsX8_beltNow wsX8_gripOf := goodIn_r _ [6] (by decide +kernel) (by decide +kernel)
set_option maxRecDepth 20000 in
theorem gX8_beltNow_X8_gripOf : GoodIn wsX8_beltNow (va_wsS RX8 138 yX8_gripOf wsX8_gripOf) := goodIn_app (goodIn_of _ (by decide +kernel)) ggX8_beltNow_X8_gripOf
theorem dX8_beltNow_0 : decode cX8_beltNow 0 = .ok (.iload_n 2, 1) := by decide +kernel
theorem dX8_beltNow_1 : decode cX8_beltNow 1 = .ok (.ifCond .ne 12, 3) := by decide +kernel
theorem dX8_beltNow_4 : decode cX8_beltNow 4 = .ok (.aload_n 0, 1) := by decide +kernel
theorem dX8_beltNow_5 : decode cX8_beltNow 5 = .ok (.getfield 34, 3) := by decide +kernel
theorem dX8_beltNow_8 : decode cX8_beltNow 8 = .ok (.iload_n 1, 1) := by decide +kernel
theorem dX8_beltNow_9 : decode cX8_beltNow 9 = .ok (.iaload, 1) := by decide +kernel
theorem dX8_beltNow_10 : decode cX8_beltNow 10 = .ok (.goto 26, 3) := by decide +kernel
theorem dX8_beltNow_13 : decode cX8_beltNow 13 = .ok (.iload_n 2, 1) := by decide +kernel
theorem dX8_beltNow_14 : decode cX8_beltNow 14 = .ok (.iconst 1, 1) := by decide +kernel
theorem dX8_beltNow_15 : decode cX8_beltNow 15 = .ok (.if_icmp .ne 12, 3) := by decide +kernel
theorem dX8_beltNow_18 : decode cX8_beltNow 18 = .ok (.aload_n 0, 1) := by decide +kernel
theorem dX8_beltNow_19 : decode cX8_beltNow 19 = .ok (.getfield 37, 3) := by decide +kernel
theorem dX8_beltNow_22 : decode cX8_beltNow 22 = .ok (.iload_n 1, 1) := by decide +kernel
theorem dX8_beltNow_23 : decode cX8_beltNow 23 = .ok (.iaload, 1) := by decide +kernel
theorem dX8_beltNow_24 : decode cX8_beltNow 24 = .ok (.goto 12, 3) := by decide +kernel
theorem dX8_beltNow_27 : decode cX8_beltNow 27 = .ok (.aload_n 0, 1) := by decide +kernel
theorem dX8_beltNow_28 : decode cX8_beltNow 28 = .ok (.getfield 34, 3) := by decide +kernel
theorem dX8_beltNow_31 : decode cX8_beltNow 31 = .ok (.iload_n 1, 1) := by decide +kernel
theorem dX8_beltNow_32 : decode cX8_beltNow 32 = .ok (.iaload, 1) := by decide +kernel
theorem dX8_beltNow_33 : decode cX8_beltNow 33 = .ok (.invokestatic 138, 3) := by decide +kernel
theorem dX8_beltNow_36 : decode cX8_beltNow 36 = .ok (.ireturn, 1) := by decide +kernel
set_option maxRecDepth 20000 in
theorem ggX8_belt_X8_isPlace : GoodIn wsX8_belt wsX8_isPlace := goodIn_r _ [5, 6, 7, 8, 4, 9, 19, 20, 21, 22, 23, 24, 25, 26, 27, 28, 29, 30, 31, 32, 33, 34, 35, 36, 37, 38, 39, 40, 41, 42, 43, 44, 45, 46, 47, 48, 49, 50, 51, 52, 53, 54, 55, 56, 57, 58, 59, 60] (by decide +kernel) (by decide +kernel)
set_option maxRecDepth 20000 in
theorem gX8_belt_X8_isPlace : GoodIn wsX8_belt (wsV RX8 142 RX8 yX8_isPlace wsX8_isPlace) := goodIn_app (goodIn_of _ (by decide +kernel)) ggX8_belt_X8_isPlace
set_option maxRecDepth 20000 in
theorem ggX8_belt_X8_within : GoodIn wsX8_belt wsX8_within := goodIn_r _ [9] (by decide +kernel) (by decide +kernel)
set_option maxRecDepth 20000 in
theorem gX8_belt_X8_within : GoodIn wsX8_belt (va_wsS RX8 77 yX8_within wsX8_within) := goodIn_app (goodIn_of _ (by decide +kernel)) ggX8_belt_X8_within
set_option maxRecDepth 20000 in
theorem ggX8_belt_X8_beltNow : GoodIn wsX8_belt wsX8_beltNow := goodIn_r _ [13, 14, 15, 16, 17, 4, 18, 19, 20, 21, 22, 23, 24, 25, 26, 27, 28, 29, 30, 31, 32, 33, 34, 35, 36, 37, 38, 39, 40, 41, 42, 43, 44, 45, 46, 47, 48, 49, 50, 51, 52, 53, 54, 55, 56, 57, 58, 59, 60] (by decide +kernel) (by decide +kernel)
set_option maxRecDepth 20000 in
theorem gX8_belt_X8_beltNow : GoodIn wsX8_belt (wsV RX8 145 RX8 yX8_beltNow wsX8_beltNow) := goodIn_app (goodIn_of _ (by decide +kernel)) ggX8_belt_X8_beltNow
theorem dX8_belt_0 : decode cX8_belt 0 = .ok (.aload_n 0, 1) := by decide +kernel
theorem dX8_belt_1 : decode cX8_belt 1 = .ok (.iload_n 1, 1) := by decide +kernel
theorem dX8_belt_2 : decode cX8_belt 2 = .ok (.invokevirtual 142, 3) := by decide +kernel
theorem dX8_belt_5 : decode cX8_belt 5 = .ok (.ifCond .ne 8, 3) := by decide +kernel
theorem dX8_belt_8 : decode cX8_belt 8 = .ok (.bipush (-101), 2) := by decide +kernel
theorem dX8_belt_10 : decode cX8_belt 10 = .ok (.goto 23, 3) := by decide +kernel
theorem dX8_belt_13 : decode cX8_belt 13 = .ok (.iload_n 2, 1) := by decide +kernel
theorem dX8_belt_14 : decode cX8_belt 14 = .ok (.iconst 0, 1) := by decide +kernel
theorem dX8_belt_15 : decode cX8_belt 15 = .ok (.iconst 2, 1) := by decide +kernel
theorem dX8_belt_16 : decode cX8_belt 16 = .ok (.invokestatic 77, 3) := by decide +kernel
theorem dX8_belt_19 : decode cX8_belt 19 = .ok (.ifCond .eq 12, 3) := by decide +kernel
theorem dX8_belt_22 : decode cX8_belt 22 = .ok (.aload_n 0, 1) := by decide +kernel
theorem dX8_belt_23 : decode cX8_belt 23 = .ok (.iload_n 1, 1) := by decide +kernel
theorem dX8_belt_24 : decode cX8_belt 24 = .ok (.iload_n 2, 1) := by decide +kernel
theorem dX8_belt_25 : decode cX8_belt 25 = .ok (.invokevirtual 145, 3) := by decide +kernel
theorem dX8_belt_28 : decode cX8_belt 28 = .ok (.goto 5, 3) := by decide +kernel
theorem dX8_belt_31 : decode cX8_belt 31 = .ok (.bipush (-102), 2) := by decide +kernel
theorem dX8_belt_33 : decode cX8_belt 33 = .ok (.ireturn, 1) := by decide +kernel
set_option maxRecDepth 20000 in
theorem ggX8_as_X8_isPlace : GoodIn wsX8_as wsX8_isPlace := goodIn_r _ [7, 8, 9, 10, 6, 11, 12, 13, 14, 15, 16, 17, 18, 19, 20, 21, 22, 23, 24, 25, 26, 27, 28, 29, 30, 31, 32, 33, 34, 35, 36, 37, 38, 39, 40, 41, 42, 43, 44, 45, 46, 47, 48, 49, 50, 51, 52, 53] (by decide +kernel) (by decide +kernel)
set_option maxRecDepth 20000 in
theorem gX8_as_X8_isPlace : GoodIn wsX8_as (wsV RX8 142 RX8 yX8_isPlace wsX8_isPlace) := goodIn_app (goodIn_of _ (by decide +kernel)) ggX8_as_X8_isPlace
set_option maxRecDepth 20000 in
theorem ggX8_as_X8_within : GoodIn wsX8_as wsX8_within := goodIn_r _ [11] (by decide +kernel) (by decide +kernel)
set_option maxRecDepth 20000 in
theorem gX8_as_X8_within : GoodIn wsX8_as (va_wsS RX8 77 yX8_within wsX8_within) := goodIn_app (goodIn_of _ (by decide +kernel)) ggX8_as_X8_within
theorem dX8_as_0 : decode cX8_as 0 = .ok (.aload_n 0, 1) := by decide +kernel
theorem dX8_as_1 : decode cX8_as 1 = .ok (.iload_n 1, 1) := by decide +kernel
theorem dX8_as_2 : decode cX8_as 2 = .ok (.invokevirtual 142, 3) := by decide +kernel
theorem dX8_as_5 : decode cX8_as 5 = .ok (.ifCond .ne 6, 3) := by decide +kernel
theorem dX8_as_8 : decode cX8_as 8 = .ok (.bipush (-101), 2) := by decide +kernel
theorem dX8_as_10 : decode cX8_as 10 = .ok (.ireturn, 1) := by decide +kernel
theorem dX8_as_11 : decode cX8_as 11 = .ok (.iload_n 2, 1) := by decide +kernel
theorem dX8_as_12 : decode cX8_as 12 = .ok (.iconst 0, 1) := by decide +kernel
theorem dX8_as_13 : decode cX8_as 13 = .ok (.iconst 4, 1) := by decide +kernel
theorem dX8_as_14 : decode cX8_as 14 = .ok (.invokestatic 77, 3) := by decide +kernel
theorem dX8_as_17 : decode cX8_as 17 = .ok (.ifCond .ne 6, 3) := by decide +kernel
theorem dX8_as_20 : decode cX8_as 20 = .ok (.bipush (-102), 2) := by decide +kernel
theorem dX8_as_22 : decode cX8_as 22 = .ok (.ireturn, 1) := by decide +kernel
theorem dX8_as_23 : decode cX8_as 23 = .ok (.aload_n 0, 1) := by decide +kernel
theorem dX8_as_24 : decode cX8_as 24 = .ok (.getfield 34, 3) := by decide +kernel
theorem dX8_as_27 : decode cX8_as 27 = .ok (.iload_n 1, 1) := by decide +kernel
theorem dX8_as_28 : decode cX8_as 28 = .ok (.iaload, 1) := by decide +kernel
theorem dX8_as_29 : decode cX8_as 29 = .ok (.istore_n 3, 1) := by decide +kernel
theorem dX8_as_30 : decode cX8_as 30 = .ok (.iload_n 2, 1) := by decide +kernel
theorem dX8_as_31 : decode cX8_as 31 = .ok (.ifCond .eq 18, 3) := by decide +kernel
theorem dX8_as_34 : decode cX8_as 34 = .ok (.iload_n 3, 1) := by decide +kernel
theorem dX8_as_35 : decode cX8_as 35 = .ok (.iload_n 2, 1) := by decide +kernel
theorem dX8_as_36 : decode cX8_as 36 = .ok (.if_icmp .eq 13, 3) := by decide +kernel
theorem dX8_as_39 : decode cX8_as 39 = .ok (.iload_n 2, 1) := by decide +kernel
theorem dX8_as_40 : decode cX8_as 40 = .ok (.iconst 2, 1) := by decide +kernel
theorem dX8_as_41 : decode cX8_as 41 = .ok (.if_icmp .ne 17, 3) := by decide +kernel
theorem dX8_as_44 : decode cX8_as 44 = .ok (.iload_n 3, 1) := by decide +kernel
theorem dX8_as_45 : decode cX8_as 45 = .ok (.iconst 4, 1) := by decide +kernel
theorem dX8_as_46 : decode cX8_as 46 = .ok (.if_icmp .ne 12, 3) := by decide +kernel
theorem dX8_as_49 : decode cX8_as 49 = .ok (.aload_n 0, 1) := by decide +kernel
theorem dX8_as_50 : decode cX8_as 50 = .ok (.getfield 37, 3) := by decide +kernel
theorem dX8_as_53 : decode cX8_as 53 = .ok (.iload_n 1, 1) := by decide +kernel
theorem dX8_as_54 : decode cX8_as 54 = .ok (.iaload, 1) := by decide +kernel
theorem dX8_as_55 : decode cX8_as 55 = .ok (.goto 4, 3) := by decide +kernel
theorem dX8_as_58 : decode cX8_as 58 = .ok (.iconst (-1), 1) := by decide +kernel
theorem dX8_as_59 : decode cX8_as 59 = .ok (.ireturn, 1) := by decide +kernel
theorem dX8_nextOf_0 : decode cX8_nextOf 0 = .ok (.iload_n 1, 1) := by decide +kernel
theorem dX8_nextOf_1 : decode cX8_nextOf 1 = .ok (.aload_n 0, 1) := by decide +kernel
theorem dX8_nextOf_2 : decode cX8_nextOf 2 = .ok (.getfield 109, 3) := by decide +kernel
theorem dX8_nextOf_5 : decode cX8_nextOf 5 = .ok (.iconst 1, 1) := by decide +kernel
theorem dX8_nextOf_6 : decode cX8_nextOf 6 = .ok (.isub, 1) := by decide +kernel
theorem dX8_nextOf_7 : decode cX8_nextOf 7 = .ok (.if_icmp .ne 9, 3) := by decide +kernel
theorem dX8_nextOf_10 : decode cX8_nextOf 10 = .ok (.iload_n 1, 1) := by decide +kernel
theorem dX8_nextOf_11 : decode cX8_nextOf 11 = .ok (.iconst 1, 1) := by decide +kernel
theorem dX8_nextOf_12 : decode cX8_nextOf 12 = .ok (.isub, 1) := by decide +kernel
theorem dX8_nextOf_13 : decode cX8_nextOf 13 = .ok (.goto 6, 3) := by decide +kernel
theorem dX8_nextOf_16 : decode cX8_nextOf 16 = .ok (.iload_n 1, 1) := by decide +kernel
theorem dX8_nextOf_17 : decode cX8_nextOf 17 = .ok (.iconst 1, 1) := by decide +kernel
theorem dX8_nextOf_18 : decode cX8_nextOf 18 = .ok (.iadd, 1) := by decide +kernel
theorem dX8_nextOf_19 : decode cX8_nextOf 19 = .ok (.ireturn, 1) := by decide +kernel
set_option maxRecDepth 20000 in
theorem ggX8_tenthsIn_X8_gripOf : GoodIn wsX8_tenthsIn wsX8_gripOf := goodIn_r _ [5] (by decide +kernel) (by decide +kernel)
set_option maxRecDepth 20000 in
theorem gX8_tenthsIn_X8_gripOf : GoodIn wsX8_tenthsIn (va_wsS RX8 138 yX8_gripOf wsX8_gripOf) := goodIn_app (goodIn_of _ (by decide +kernel)) ggX8_tenthsIn_X8_gripOf
theorem dX8_tenthsIn_0 : decode cX8_tenthsIn 0 = .ok (.bipush 10, 2) := by decide +kernel
theorem dX8_tenthsIn_2 : decode cX8_tenthsIn 2 = .ok (.iload_n 1, 1) := by decide +kernel
theorem dX8_tenthsIn_3 : decode cX8_tenthsIn 3 = .ok (.invokestatic 138, 3) := by decide +kernel
theorem dX8_tenthsIn_6 : decode cX8_tenthsIn 6 = .ok (.iadd, 1) := by decide +kernel
theorem dX8_tenthsIn_7 : decode cX8_tenthsIn 7 = .ok (.aload_n 0, 1) := by decide +kernel
theorem dX8_tenthsIn_8 : decode cX8_tenthsIn 8 = .ok (.getfield 7, 3) := by decide +kernel
theorem dX8_tenthsIn_11 : decode cX8_tenthsIn 11 = .ok (.iload_n 2, 1) := by decide +kernel
theorem dX8_tenthsIn_12 : decode cX8_tenthsIn 12 = .ok (.iaload, 1) := by decide +kernel
theorem dX8_tenthsIn_13 : decode cX8_tenthsIn 13 = .ok (.isub, 1) := by decide +kernel
theorem dX8_tenthsIn_14 : decode cX8_tenthsIn 14 = .ok (.istore_n 3, 1) := by decide +kernel
theorem dX8_tenthsIn_15 : decode cX8_tenthsIn 15 = .ok (.iload_n 3, 1) := by decide +kernel
theorem dX8_tenthsIn_16 : decode cX8_tenthsIn 16 = .ok (.ifCond .ge 7, 3) := by decide +kernel
theorem dX8_tenthsIn_19 : decode cX8_tenthsIn 19 = .ok (.iconst 0, 1) := by decide +kernel
theorem dX8_tenthsIn_20 : decode cX8_tenthsIn 20 = .ok (.goto 15, 3) := by decide +kernel
theorem dX8_tenthsIn_23 : decode cX8_tenthsIn 23 = .ok (.iload_n 3, 1) := by decide +kernel
theorem dX8_tenthsIn_24 : decode cX8_tenthsIn 24 = .ok (.bipush 10, 2) := by decide +kernel
theorem dX8_tenthsIn_26 : decode cX8_tenthsIn 26 = .ok (.if_icmp .le 8, 3) := by decide +kernel
theorem dX8_tenthsIn_29 : decode cX8_tenthsIn 29 = .ok (.bipush 10, 2) := by decide +kernel
theorem dX8_tenthsIn_31 : decode cX8_tenthsIn 31 = .ok (.goto 4, 3) := by decide +kernel
theorem dX8_tenthsIn_34 : decode cX8_tenthsIn 34 = .ok (.iload_n 3, 1) := by decide +kernel
theorem dX8_tenthsIn_35 : decode cX8_tenthsIn 35 = .ok (.ireturn, 1) := by decide +kernel
set_option maxRecDepth 20000 in
theorem ggX8_tenthsNext_X8_tenthsIn : GoodIn wsX8_tenthsNext wsX8_tenthsIn := goodIn_r _ [5, 6, 7, 8, 4, 9, 10, 11, 12, 13, 14, 15, 16, 17, 18, 19, 20, 21, 22, 23, 24, 25, 26, 27, 28, 29, 30, 31, 32, 33, 34, 35, 36, 37, 38, 39, 40, 41, 42, 43, 44, 45, 46, 47, 48, 49, 50, 51] (by decide +kernel) (by decide +kernel)
set_option maxRecDepth 20000 in
theorem gX8_tenthsNext_X8_tenthsIn : GoodIn wsX8_tenthsNext (wsV RX8 148 RX8 yX8_tenthsIn wsX8_tenthsIn) := goodIn_app (goodIn_of _ (by decide +kernel)) ggX8_tenthsNext_X8_tenthsIn
theorem dX8_tenthsNext_0 : decode cX8_tenthsNext 0 = .ok (.bipush 10, 2) := by decide +kernel
theorem dX8_tenthsNext_2 : decode cX8_tenthsNext 2 = .ok (.aload_n 0, 1) := by decide +kernel
theorem dX8_tenthsNext_3 : decode cX8_tenthsNext 3 = .ok (.iload_n 1, 1) := by decide +kernel
theorem dX8_tenthsNext_4 : decode cX8_tenthsNext 4 = .ok (.iload_n 2, 1) := by decide +kernel
theorem dX8_tenthsNext_5 : decode cX8_tenthsNext 5 = .ok (.invokevirtual 148, 3) := by decide +kernel
theorem dX8_tenthsNext_8 : decode cX8_tenthsNext 8 = .ok (.isub, 1) := by decide +kernel
theorem dX8_tenthsNext_9 : decode cX8_tenthsNext 9 = .ok (.iconst 3, 1) := by decide +kernel
theorem dX8_tenthsNext_10 : decode cX8_tenthsNext 10 = .ok (.idiv, 1) := by decide +kernel
theorem dX8_tenthsNext_11 : decode cX8_tenthsNext 11 = .ok (.ireturn, 1) := by decide +kernel
theorem dX8_isFull_0 : decode cX8_isFull 0 = .ok (.aload_n 0, 1) := by decide +kernel
theorem dX8_isFull_1 : decode cX8_isFull 1 = .ok (.getfield 22, 3) := by decide +kernel
theorem dX8_isFull_4 : decode cX8_isFull 4 = .ok (.aload_n 0, 1) := by decide +kernel
theorem dX8_isFull_5 : decode cX8_isFull 5 = .ok (.getfield 19, 3) := by decide +kernel
theorem dX8_isFull_8 : decode cX8_isFull 8 = .ok (.iload_n 1, 1) := by decide +kernel
theorem dX8_isFull_9 : decode cX8_isFull 9 = .ok (.iaload, 1) := by decide +kernel
theorem dX8_isFull_10 : decode cX8_isFull 10 = .ok (.iaload, 1) := by decide +kernel
theorem dX8_isFull_11 : decode cX8_isFull 11 = .ok (.aload_n 0, 1) := by decide +kernel
theorem dX8_isFull_12 : decode cX8_isFull 12 = .ok (.getfield 13, 3) := by decide +kernel
theorem dX8_isFull_15 : decode cX8_isFull 15 = .ok (.iload_n 1, 1) := by decide +kernel
theorem dX8_isFull_16 : decode cX8_isFull 16 = .ok (.iaload, 1) := by decide +kernel
theorem dX8_isFull_17 : decode cX8_isFull 17 = .ok (.if_icmp .lt 7, 3) := by decide +kernel
theorem dX8_isFull_20 : decode cX8_isFull 20 = .ok (.iconst 1, 1) := by decide +kernel
theorem dX8_isFull_21 : decode cX8_isFull 21 = .ok (.goto 4, 3) := by decide +kernel
theorem dX8_isFull_24 : decode cX8_isFull 24 = .ok (.iconst 0, 1) := by decide +kernel
theorem dX8_isFull_25 : decode cX8_isFull 25 = .ok (.ireturn, 1) := by decide +kernel
set_option maxRecDepth 20000 in
theorem ggX8_tenthsOf_X8_tenthsIn : GoodIn wsX8_tenthsOf wsX8_tenthsIn := goodIn_r _ [5, 6, 7, 8, 4, 9, 26, 27, 28, 29, 30, 31, 32, 33, 34, 35, 36, 37, 38, 39, 40, 41, 42, 43, 44, 45, 46, 47, 48, 49, 50, 51, 52, 53, 54, 55, 56, 57, 58, 59, 60, 61, 62, 63, 64, 65, 66, 67] (by decide +kernel) (by decide +kernel)
set_option maxRecDepth 20000 in
theorem gX8_tenthsOf_X8_tenthsIn : GoodIn wsX8_tenthsOf (wsV RX8 148 RX8 yX8_tenthsIn wsX8_tenthsIn) := goodIn_app (goodIn_of _ (by decide +kernel)) ggX8_tenthsOf_X8_tenthsIn
set_option maxRecDepth 20000 in
theorem ggX8_tenthsOf_X8_nextOf : GoodIn wsX8_tenthsOf wsX8_nextOf := goodIn_r _ [13, 14, 26, 27, 28, 29, 30, 31, 32, 33, 34, 35, 36, 37, 38, 39, 40, 41, 42, 43, 44, 45, 46, 47, 48, 49, 50, 51, 52, 53, 54, 55, 56, 57, 58, 59, 60, 61, 62, 63, 64, 65, 66, 67] (by decide +kernel) (by decide +kernel)
set_option maxRecDepth 20000 in
theorem gX8_tenthsOf_X8_nextOf : GoodIn wsX8_tenthsOf (wsV RX8 151 RX8 yX8_nextOf wsX8_nextOf) := goodIn_app (goodIn_of _ (by decide +kernel)) ggX8_tenthsOf_X8_nextOf
set_option maxRecDepth 20000 in
theorem ggX8_tenthsOf_X8_isFull : GoodIn wsX8_tenthsOf wsX8_isFull := goodIn_r _ [18, 19, 20, 21, 26, 27, 28, 29, 30, 31, 32, 33, 34, 35, 36, 37, 38, 39, 40, 41, 42, 43, 44, 45, 46, 47, 48, 49, 50, 51, 52, 53, 54, 55, 56, 57, 58, 59, 60, 61, 62, 63, 64, 65, 66, 67] (by decide +kernel) (by decide +kernel)
set_option maxRecDepth 20000 in
theorem gX8_tenthsOf_X8_isFull : GoodIn wsX8_tenthsOf (wsV RX8 154 RX8 yX8_isFull wsX8_isFull) := goodIn_app (goodIn_of _ (by decide +kernel)) ggX8_tenthsOf_X8_isFull
set_option maxRecDepth 20000 in
theorem ggX8_tenthsOf_X8_tenthsNext : GoodIn wsX8_tenthsOf wsX8_tenthsNext := goodIn_r _ [25, 1, 2, 3, 4, 5, 6, 7, 8, 9, 26, 27, 28, 29, 30, 31, 32, 33, 34, 35, 36, 37, 38, 39, 40, 41, 42, 43, 44, 45, 46, 47, 48, 49, 50, 51, 52, 53, 54, 55, 56, 57, 58, 59, 60, 61, 62, 63, 64, 65, 66, 67] (by decide +kernel) (by decide +kernel)
set_option maxRecDepth 20000 in
theorem gX8_tenthsOf_X8_tenthsNext : GoodIn wsX8_tenthsOf (wsV RX8 157 RX8 yX8_tenthsNext wsX8_tenthsNext) := goodIn_app (goodIn_of _ (by decide +kernel)) ggX8_tenthsOf_X8_tenthsNext
theorem dX8_tenthsOf_0 : decode cX8_tenthsOf 0 = .ok (.aload_n 0, 1) := by decide +kernel
theorem dX8_tenthsOf_1 : decode cX8_tenthsOf 1 = .ok (.iload_n 1, 1) := by decide +kernel
theorem dX8_tenthsOf_2 : decode cX8_tenthsOf 2 = .ok (.iload_n 2, 1) := by decide +kernel
theorem dX8_tenthsOf_3 : decode cX8_tenthsOf 3 = .ok (.invokevirtual 148, 3) := by decide +kernel
theorem dX8_tenthsOf_6 : decode cX8_tenthsOf 6 = .ok (.istore 4, 2) := by decide +kernel
theorem dX8_tenthsOf_8 : decode cX8_tenthsOf 8 = .ok (.aload_n 0, 1) := by decide +kernel
theorem dX8_tenthsOf_9 : decode cX8_tenthsOf 9 = .ok (.aload_n 0, 1) := by decide +kernel
theorem dX8_tenthsOf_10 : decode cX8_tenthsOf 10 = .ok (.iload_n 2, 1) := by decide +kernel
theorem dX8_tenthsOf_11 : decode cX8_tenthsOf 11 = .ok (.invokevirtual 151, 3) := by decide +kernel
theorem dX8_tenthsOf_14 : decode cX8_tenthsOf 14 = .ok (.invokevirtual 154, 3) := by decide +kernel
theorem dX8_tenthsOf_17 : decode cX8_tenthsOf 17 = .ok (.ifCond .eq 7, 3) := by decide +kernel
theorem dX8_tenthsOf_20 : decode cX8_tenthsOf 20 = .ok (.iconst 0, 1) := by decide +kernel
theorem dX8_tenthsOf_21 : decode cX8_tenthsOf 21 = .ok (.goto 9, 3) := by decide +kernel
theorem dX8_tenthsOf_24 : decode cX8_tenthsOf 24 = .ok (.aload_n 0, 1) := by decide +kernel
theorem dX8_tenthsOf_25 : decode cX8_tenthsOf 25 = .ok (.iload_n 1, 1) := by decide +kernel
theorem dX8_tenthsOf_26 : decode cX8_tenthsOf 26 = .ok (.iload_n 2, 1) := by decide +kernel
theorem dX8_tenthsOf_27 : decode cX8_tenthsOf 27 = .ok (.invokevirtual 157, 3) := by decide +kernel
theorem dX8_tenthsOf_30 : decode cX8_tenthsOf 30 = .ok (.istore 5, 2) := by decide +kernel
theorem dX8_tenthsOf_32 : decode cX8_tenthsOf 32 = .ok (.iload_n 3, 1) := by decide +kernel
theorem dX8_tenthsOf_33 : decode cX8_tenthsOf 33 = .ok (.ifCond .ne 8, 3) := by decide +kernel
theorem dX8_tenthsOf_36 : decode cX8_tenthsOf 36 = .ok (.iload 4, 2) := by decide +kernel
theorem dX8_tenthsOf_38 : decode cX8_tenthsOf 38 = .ok (.goto 21, 3) := by decide +kernel
theorem dX8_tenthsOf_41 : decode cX8_tenthsOf 41 = .ok (.iload_n 3, 1) := by decide +kernel
theorem dX8_tenthsOf_42 : decode cX8_tenthsOf 42 = .ok (.iconst 1, 1) := by decide +kernel
theorem dX8_tenthsOf_43 : decode cX8_tenthsOf 43 = .ok (.if_icmp .ne 8, 3) := by decide +kernel
theorem dX8_tenthsOf_46 : decode cX8_tenthsOf 46 = .ok (.iload 5, 2) := by decide +kernel
theorem dX8_tenthsOf_48 : decode cX8_tenthsOf 48 = .ok (.goto 11, 3) := by decide +kernel
theorem dX8_tenthsOf_51 : decode cX8_tenthsOf 51 = .ok (.bipush 10, 2) := by decide +kernel
theorem dX8_tenthsOf_53 : decode cX8_tenthsOf 53 = .ok (.iload 4, 2) := by decide +kernel
theorem dX8_tenthsOf_55 : decode cX8_tenthsOf 55 = .ok (.isub, 1) := by decide +kernel
theorem dX8_tenthsOf_56 : decode cX8_tenthsOf 56 = .ok (.iload 5, 2) := by decide +kernel
theorem dX8_tenthsOf_58 : decode cX8_tenthsOf 58 = .ok (.isub, 1) := by decide +kernel
theorem dX8_tenthsOf_59 : decode cX8_tenthsOf 59 = .ok (.ireturn, 1) := by decide +kernel
theorem dX8_walk_0 : decode cX8_walk 0 = .ok (.iconst 2, 1) := by decide +kernel
theorem dX8_walk_1 : decode cX8_walk 1 = .ok (.aload_n 0, 1) := by decide +kernel
theorem dX8_walk_2 : decode cX8_walk 2 = .ok (.getfield 7, 3) := by decide +kernel
theorem dX8_walk_5 : decode cX8_walk 5 = .ok (.iload_n 1, 1) := by decide +kernel
theorem dX8_walk_6 : decode cX8_walk 6 = .ok (.iaload, 1) := by decide +kernel
theorem dX8_walk_7 : decode cX8_walk 7 = .ok (.imul, 1) := by decide +kernel
theorem dX8_walk_8 : decode cX8_walk 8 = .ok (.iconst 3, 1) := by decide +kernel
theorem dX8_walk_9 : decode cX8_walk 9 = .ok (.iadd, 1) := by decide +kernel
theorem dX8_walk_10 : decode cX8_walk 10 = .ok (.ireturn, 1) := by decide +kernel
theorem dX8_comes_0 : decode cX8_comes 0 = .ok (.aload_n 0, 1) := by decide +kernel
theorem dX8_comes_1 : decode cX8_comes 1 = .ok (.getfield 19, 3) := by decide +kernel
theorem dX8_comes_4 : decode cX8_comes 4 = .ok (.iload_n 1, 1) := by decide +kernel
theorem dX8_comes_5 : decode cX8_comes 5 = .ok (.iaload, 1) := by decide +kernel
theorem dX8_comes_6 : decode cX8_comes 6 = .ok (.istore_n 3, 1) := by decide +kernel
theorem dX8_comes_7 : decode cX8_comes 7 = .ok (.aload_n 0, 1) := by decide +kernel
theorem dX8_comes_8 : decode cX8_comes 8 = .ok (.getfield 34, 3) := by decide +kernel
theorem dX8_comes_11 : decode cX8_comes 11 = .ok (.iconst 0, 1) := by decide +kernel
theorem dX8_comes_12 : decode cX8_comes 12 = .ok (.iaload, 1) := by decide +kernel
theorem dX8_comes_13 : decode cX8_comes 13 = .ok (.istore 4, 2) := by decide +kernel
theorem dX8_comes_15 : decode cX8_comes 15 = .ok (.aload_n 0, 1) := by decide +kernel
theorem dX8_comes_16 : decode cX8_comes 16 = .ok (.getfield 22, 3) := by decide +kernel
theorem dX8_comes_19 : decode cX8_comes 19 = .ok (.iload_n 3, 1) := by decide +kernel
theorem dX8_comes_20 : decode cX8_comes 20 = .ok (.dup2, 1) := by decide +kernel
theorem dX8_comes_21 : decode cX8_comes 21 = .ok (.iaload, 1) := by decide +kernel
theorem dX8_comes_22 : decode cX8_comes 22 = .ok (.iconst 1, 1) := by decide +kernel
theorem dX8_comes_23 : decode cX8_comes 23 = .ok (.iadd, 1) := by decide +kernel
theorem dX8_comes_24 : decode cX8_comes 24 = .ok (.iastore, 1) := by decide +kernel
theorem dX8_comes_25 : decode cX8_comes 25 = .ok (.aload_n 0, 1) := by decide +kernel
theorem dX8_comes_26 : decode cX8_comes 26 = .ok (.getfield 25, 3) := by decide +kernel
theorem dX8_comes_29 : decode cX8_comes 29 = .ok (.iload_n 3, 1) := by decide +kernel
theorem dX8_comes_30 : decode cX8_comes 30 = .ok (.dup2, 1) := by decide +kernel
theorem dX8_comes_31 : decode cX8_comes 31 = .ok (.iaload, 1) := by decide +kernel
theorem dX8_comes_32 : decode cX8_comes 32 = .ok (.aload_n 0, 1) := by decide +kernel
theorem dX8_comes_33 : decode cX8_comes 33 = .ok (.getfield 37, 3) := by decide +kernel
theorem dX8_comes_36 : decode cX8_comes 36 = .ok (.iconst 0, 1) := by decide +kernel
theorem dX8_comes_37 : decode cX8_comes 37 = .ok (.iaload, 1) := by decide +kernel
theorem dX8_comes_38 : decode cX8_comes 38 = .ok (.iload_n 3, 1) := by decide +kernel
theorem dX8_comes_39 : decode cX8_comes 39 = .ok (.if_icmp .ne 7, 3) := by decide +kernel
theorem dX8_comes_42 : decode cX8_comes 42 = .ok (.iconst 0, 1) := by decide +kernel
theorem dX8_comes_43 : decode cX8_comes 43 = .ok (.goto 4, 3) := by decide +kernel
theorem dX8_comes_46 : decode cX8_comes 46 = .ok (.iconst 1, 1) := by decide +kernel
theorem dX8_comes_47 : decode cX8_comes 47 = .ok (.iadd, 1) := by decide +kernel
theorem dX8_comes_48 : decode cX8_comes 48 = .ok (.iastore, 1) := by decide +kernel
theorem dX8_comes_49 : decode cX8_comes 49 = .ok (.iload 4, 2) := by decide +kernel
theorem dX8_comes_51 : decode cX8_comes 51 = .ok (.iconst 4, 1) := by decide +kernel
theorem dX8_comes_52 : decode cX8_comes 52 = .ok (.if_icmp .ne 25, 3) := by decide +kernel
theorem dX8_comes_55 : decode cX8_comes 55 = .ok (.aload_n 0, 1) := by decide +kernel
theorem dX8_comes_56 : decode cX8_comes 56 = .ok (.dup, 1) := by decide +kernel
theorem dX8_comes_57 : decode cX8_comes 57 = .ok (.getfield 124, 3) := by decide +kernel
theorem dX8_comes_60 : decode cX8_comes 60 = .ok (.aload_n 0, 1) := by decide +kernel
theorem dX8_comes_61 : decode cX8_comes 61 = .ok (.getfield 31, 3) := by decide +kernel
theorem dX8_comes_64 : decode cX8_comes 64 = .ok (.iload_n 3, 1) := by decide +kernel
theorem dX8_comes_65 : decode cX8_comes 65 = .ok (.iaload, 1) := by decide +kernel
theorem dX8_comes_66 : decode cX8_comes 66 = .ok (.iadd, 1) := by decide +kernel
theorem dX8_comes_67 : decode cX8_comes 67 = .ok (.putfield 124, 3) := by decide +kernel
theorem dX8_comes_70 : decode cX8_comes 70 = .ok (.aload_n 0, 1) := by decide +kernel
theorem dX8_comes_71 : decode cX8_comes 71 = .ok (.getfield 31, 3) := by decide +kernel
theorem dX8_comes_74 : decode cX8_comes 74 = .ok (.iload_n 3, 1) := by decide +kernel
theorem dX8_comes_75 : decode cX8_comes 75 = .ok (.iconst 0, 1) := by decide +kernel
theorem dX8_comes_76 : decode cX8_comes 76 = .ok (.iastore, 1) := by decide +kernel
theorem dX8_comes_77 : decode cX8_comes 77 = .ok (.iload 4, 2) := by decide +kernel
theorem dX8_comes_79 : decode cX8_comes 79 = .ok (.iconst 3, 1) := by decide +kernel
theorem dX8_comes_80 : decode cX8_comes 80 = .ok (.if_icmp .ne 49, 3) := by decide +kernel
theorem dX8_comes_83 : decode cX8_comes 83 = .ok (.aload_n 0, 1) := by decide +kernel
theorem dX8_comes_84 : decode cX8_comes 84 = .ok (.getfield 28, 3) := by decide +kernel
theorem dX8_comes_87 : decode cX8_comes 87 = .ok (.iload_n 3, 1) := by decide +kernel
theorem dX8_comes_88 : decode cX8_comes 88 = .ok (.dup2, 1) := by decide +kernel
theorem dX8_comes_89 : decode cX8_comes 89 = .ok (.iaload, 1) := by decide +kernel
theorem dX8_comes_90 : decode cX8_comes 90 = .ok (.iconst 1, 1) := by decide +kernel
theorem dX8_comes_91 : decode cX8_comes 91 = .ok (.iadd, 1) := by decide +kernel
theorem dX8_comes_92 : decode cX8_comes 92 = .ok (.iastore, 1) := by decide +kernel
theorem dX8_comes_93 : decode cX8_comes 93 = .ok (.aload_n 0, 1) := by decide +kernel
theorem dX8_comes_94 : decode cX8_comes 94 = .ok (.dup, 1) := by decide +kernel
theorem dX8_comes_95 : decode cX8_comes 95 = .ok (.getfield 124, 3) := by decide +kernel
theorem dX8_comes_98 : decode cX8_comes 98 = .ok (.iload_n 2, 1) := by decide +kernel
theorem dX8_comes_99 : decode cX8_comes 99 = .ok (.ifCond .eq 7, 3) := by decide +kernel
theorem dX8_comes_102 : decode cX8_comes 102 = .ok (.iconst 1, 1) := by decide +kernel
theorem dX8_comes_103 : decode cX8_comes 103 = .ok (.goto 4, 3) := by decide +kernel
theorem dX8_comes_106 : decode cX8_comes 106 = .ok (.iconst 0, 1) := by decide +kernel
theorem dX8_comes_107 : decode cX8_comes 107 = .ok (.iadd, 1) := by decide +kernel
theorem dX8_comes_108 : decode cX8_comes 108 = .ok (.putfield 124, 3) := by decide +kernel
theorem dX8_comes_111 : decode cX8_comes 111 = .ok (.aload_n 0, 1) := by decide +kernel
theorem dX8_comes_112 : decode cX8_comes 112 = .ok (.getfield 31, 3) := by decide +kernel
theorem dX8_comes_115 : decode cX8_comes 115 = .ok (.iload_n 3, 1) := by decide +kernel
theorem dX8_comes_116 : decode cX8_comes 116 = .ok (.dup2, 1) := by decide +kernel
theorem dX8_comes_117 : decode cX8_comes 117 = .ok (.iaload, 1) := by decide +kernel
theorem dX8_comes_118 : decode cX8_comes 118 = .ok (.iload_n 2, 1) := by decide +kernel
theorem dX8_comes_119 : decode cX8_comes 119 = .ok (.ifCond .eq 7, 3) := by decide +kernel
theorem dX8_comes_122 : decode cX8_comes 122 = .ok (.iconst 0, 1) := by decide +kernel
theorem dX8_comes_123 : decode cX8_comes 123 = .ok (.goto 4, 3) := by decide +kernel
theorem dX8_comes_126 : decode cX8_comes 126 = .ok (.iconst 1, 1) := by decide +kernel
theorem dX8_comes_127 : decode cX8_comes 127 = .ok (.iadd, 1) := by decide +kernel
theorem dX8_comes_128 : decode cX8_comes 128 = .ok (.iastore, 1) := by decide +kernel
theorem dX8_comes_129 : decode cX8_comes 129 = .ok (.aload_n 0, 1) := by decide +kernel
theorem dX8_comes_130 : decode cX8_comes 130 = .ok (.dup, 1) := by decide +kernel
theorem dX8_comes_131 : decode cX8_comes 131 = .ok (.getfield 118, 3) := by decide +kernel
theorem dX8_comes_134 : decode cX8_comes 134 = .ok (.iconst 1, 1) := by decide +kernel
theorem dX8_comes_135 : decode cX8_comes 135 = .ok (.isub, 1) := by decide +kernel
theorem dX8_comes_136 : decode cX8_comes 136 = .ok (.putfield 118, 3) := by decide +kernel
theorem dX8_comes_139 : decode cX8_comes 139 = .ok (.iconst 0, 1) := by decide +kernel
theorem dX8_comes_140 : decode cX8_comes 140 = .ok (.istore 5, 2) := by decide +kernel
theorem dX8_comes_142 : decode cX8_comes 142 = .ok (.iload 5, 2) := by decide +kernel
theorem dX8_comes_144 : decode cX8_comes 144 = .ok (.aload_n 0, 1) := by decide +kernel
theorem dX8_comes_145 : decode cX8_comes 145 = .ok (.getfield 118, 3) := by decide +kernel
theorem dX8_comes_148 : decode cX8_comes 148 = .ok (.if_icmp .ge 41, 3) := by decide +kernel
theorem dX8_comes_151 : decode cX8_comes 151 = .ok (.aload_n 0, 1) := by decide +kernel
theorem dX8_comes_152 : decode cX8_comes 152 = .ok (.getfield 34, 3) := by decide +kernel
theorem dX8_comes_155 : decode cX8_comes 155 = .ok (.iload 5, 2) := by decide +kernel
theorem dX8_comes_157 : decode cX8_comes 157 = .ok (.aload_n 0, 1) := by decide +kernel
theorem dX8_comes_158 : decode cX8_comes 158 = .ok (.getfield 34, 3) := by decide +kernel
theorem dX8_comes_161 : decode cX8_comes 161 = .ok (.iload 5, 2) := by decide +kernel
theorem dX8_comes_163 : decode cX8_comes 163 = .ok (.iconst 1, 1) := by decide +kernel
theorem dX8_comes_164 : decode cX8_comes 164 = .ok (.iadd, 1) := by decide +kernel
theorem dX8_comes_165 : decode cX8_comes 165 = .ok (.iaload, 1) := by decide +kernel
theorem dX8_comes_166 : decode cX8_comes 166 = .ok (.iastore, 1) := by decide +kernel
theorem dX8_comes_167 : decode cX8_comes 167 = .ok (.aload_n 0, 1) := by decide +kernel
theorem dX8_comes_168 : decode cX8_comes 168 = .ok (.getfield 37, 3) := by decide +kernel
theorem dX8_comes_171 : decode cX8_comes 171 = .ok (.iload 5, 2) := by decide +kernel
theorem dX8_comes_173 : decode cX8_comes 173 = .ok (.aload_n 0, 1) := by decide +kernel
theorem dX8_comes_174 : decode cX8_comes 174 = .ok (.getfield 37, 3) := by decide +kernel
theorem dX8_comes_177 : decode cX8_comes 177 = .ok (.iload 5, 2) := by decide +kernel
theorem dX8_comes_179 : decode cX8_comes 179 = .ok (.iconst 1, 1) := by decide +kernel
theorem dX8_comes_180 : decode cX8_comes 180 = .ok (.iadd, 1) := by decide +kernel
theorem dX8_comes_181 : decode cX8_comes 181 = .ok (.iaload, 1) := by decide +kernel
theorem dX8_comes_182 : decode cX8_comes 182 = .ok (.iastore, 1) := by decide +kernel
theorem dX8_comes_183 : decode cX8_comes 183 = .ok (.iinc 5 1, 3) := by decide +kernel
theorem dX8_comes_186 : decode cX8_comes 186 = .ok (.goto (-44), 3) := by decide +kernel
theorem dX8_comes_189 : decode cX8_comes 189 = .ok (.return_, 1) := by decide +kernel
set_option maxRecDepth 20000 in
theorem ggX8_toss_X8_isHook : GoodIn wsX8_toss wsX8_isHook := goodIn_r _ [8, 9, 10, 11, 7, 12, 53, 54, 55, 56, 57, 58, 59, 60, 61, 62, 63, 64, 65, 66, 67, 68, 69, 70, 71, 72, 73, 74, 75, 76, 77, 78, 79, 80, 81, 82, 83, 84, 85, 86, 87, 88, 89, 90, 91, 92, 93, 94] (by decide +kernel) (by decide +kernel)
set_option maxRecDepth 20000 in
theorem gX8_toss_X8_isHook : GoodIn wsX8_toss (wsV RX8 130 RX8 yX8_isHook wsX8_isHook) := goodIn_app (goodIn_of _ (by decide +kernel)) ggX8_toss_X8_isHook
set_option maxRecDepth 20000 in
theorem ggX8_toss_X8_within : GoodIn wsX8_toss wsX8_within := goodIn_r _ [12] (by decide +kernel) (by decide +kernel)
set_option maxRecDepth 20000 in
theorem gX8_toss_X8_within : GoodIn wsX8_toss (va_wsS RX8 77 yX8_within wsX8_within) := goodIn_app (goodIn_of _ (by decide +kernel)) ggX8_toss_X8_within
set_option maxRecDepth 20000 in
theorem ggX8_toss_X8_isFull : GoodIn wsX8_toss wsX8_isFull := goodIn_r _ [16, 17, 18, 19, 53, 54, 55, 56, 57, 58, 59, 60, 61, 62, 63, 64, 65, 66, 67, 68, 69, 70, 71, 72, 73, 74, 75, 76, 77, 78, 79, 80, 81, 82, 83, 84, 85, 86, 87, 88, 89, 90, 91, 92, 93, 94] (by decide +kernel) (by decide +kernel)
set_option maxRecDepth 20000 in
theorem gX8_toss_X8_isFull : GoodIn wsX8_toss (wsV RX8 154 RX8 yX8_isFull wsX8_isFull) := goodIn_app (goodIn_of _ (by decide +kernel)) ggX8_toss_X8_isFull
set_option maxRecDepth 20000 in
theorem ggX8_toss_X8_tenthsOf : GoodIn wsX8_toss wsX8_tenthsOf := goodIn_r _ [23, 24, 25, 26, 7, 27, 28, 29, 30, 31, 32, 33, 34, 35, 9, 13, 14, 15, 16, 17, 18, 19, 36, 37, 38, 39, 53, 54, 55, 56, 57, 58, 59, 60, 61, 62, 63, 64, 65, 66, 67, 68, 69, 70, 71, 72, 73, 74, 75, 76, 77, 78, 79, 80, 81, 82, 83, 84, 85, 86, 87, 88, 89, 90, 91, 92, 93, 94] (by decide +kernel) (by decide +kernel)
set_option maxRecDepth 20000 in
theorem gX8_toss_X8_tenthsOf : GoodIn wsX8_toss (wsV RX8 160 RX8 yX8_tenthsOf wsX8_tenthsOf) := goodIn_app (goodIn_of _ (by decide +kernel)) ggX8_toss_X8_tenthsOf
set_option maxRecDepth 20000 in
theorem ggX8_toss_X8_nextOf : GoodIn wsX8_toss wsX8_nextOf := goodIn_r _ [35, 9, 53, 54, 55, 56, 57, 58, 59, 60, 61, 62, 63, 64, 65, 66, 67, 68, 69, 70, 71, 72, 73, 74, 75, 76, 77, 78, 79, 80, 81, 82, 83, 84, 85, 86, 87, 88, 89, 90, 91, 92, 93, 94] (by decide +kernel) (by decide +kernel)
set_option maxRecDepth 20000 in
theorem gX8_toss_X8_nextOf : GoodIn wsX8_toss (wsV RX8 151 RX8 yX8_nextOf wsX8_nextOf) := goodIn_app (goodIn_of _ (by decide +kernel)) ggX8_toss_X8_nextOf
set_option maxRecDepth 20000 in
theorem ggX8_toss_X8_walk : GoodIn wsX8_toss wsX8_walk := goodIn_r _ [43, 28, 53, 54, 55, 56, 57, 58, 59, 60, 61, 62, 63, 64, 65, 66, 67, 68, 69, 70, 71, 72, 73, 74, 75, 76, 77, 78, 79, 80, 81, 82, 83, 84, 85, 86, 87, 88, 89, 90, 91, 92, 93, 94] (by decide +kernel) (by decide +kernel)
set_option maxRecDepth 20000 in
theorem gX8_toss_X8_walk : GoodIn wsX8_toss (wsV RX8 164 RX8 yX8_walk wsX8_walk) := goodIn_app (goodIn_of _ (by decide +kernel)) ggX8_toss_X8_walk
set_option maxRecDepth 20000 in
theorem ggX8_toss_X8_comes : GoodIn wsX8_toss wsX8_comes := goodIn_r _ [47, 18, 2, 17, 48, 49, 50, 51, 52, 1, 53, 54, 55, 56, 57, 58, 59, 60, 61, 62, 63, 64, 65, 66, 67, 68, 69, 70, 71, 72, 73, 74, 75, 76, 77, 78, 79, 80, 81, 82, 83, 84, 85, 86, 87, 88, 89, 90, 91, 92, 93, 94] (by decide +kernel) (by decide +kernel)
set_option maxRecDepth 20000 in
theorem gX8_toss_X8_comes : GoodIn wsX8_toss (wsV RX8 167 RX8 yX8_comes wsX8_comes) := goodIn_app (goodIn_of _ (by decide +kernel)) ggX8_toss_X8_comes
theorem dX8_toss_0 : decode cX8_toss 0 = .ok (.aload_n 0, 1) := by decide +kernel
end
section
theorem dX8_toss_1 : decode cX8_toss 1 = .ok (.iload_n 1, 1) := by decide +kernel
theorem dX8_toss_2 : decode cX8_toss 2 = .ok (.invokevirtual 130, 3) := by decide +kernel
theorem dX8_toss_5 : decode cX8_toss 5 = .ok (.ifCond .ne 6, 3) := by decide +kernel
theorem dX8_toss_8 : decode cX8_toss 8 = .ok (.bipush (-101), 2) := by decide +kernel
theorem dX8_toss_10 : decode cX8_toss 10 = .ok (.ireturn, 1) := by decide +kernel
theorem dX8_toss_11 : decode cX8_toss 11 = .ok (.iload_n 2, 1) := by decide +kernel
theorem dX8_toss_12 : decode cX8_toss 12 = .ok (.iconst 0, 1) := by decide +kernel
theorem dX8_toss_13 : decode cX8_toss 13 = .ok (.iconst 2, 1) := by decide +kernel
theorem dX8_toss_14 : decode cX8_toss 14 = .ok (.invokestatic 77, 3) := by decide +kernel
theorem dX8_toss_17 : decode cX8_toss 17 = .ok (.ifCond .ne 6, 3) := by decide +kernel
theorem dX8_toss_20 : decode cX8_toss 20 = .ok (.bipush (-102), 2) := by decide +kernel
theorem dX8_toss_22 : decode cX8_toss 22 = .ok (.ireturn, 1) := by decide +kernel
theorem dX8_toss_23 : decode cX8_toss 23 = .ok (.aload_n 0, 1) := by decide +kernel
theorem dX8_toss_24 : decode cX8_toss 24 = .ok (.getfield 118, 3) := by decide +kernel
theorem dX8_toss_27 : decode cX8_toss 27 = .ok (.ifCond .eq 26, 3) := by decide +kernel
theorem dX8_toss_30 : decode cX8_toss 30 = .ok (.aload_n 0, 1) := by decide +kernel
theorem dX8_toss_31 : decode cX8_toss 31 = .ok (.iload_n 1, 1) := by decide +kernel
theorem dX8_toss_32 : decode cX8_toss 32 = .ok (.invokevirtual 154, 3) := by decide +kernel
theorem dX8_toss_35 : decode cX8_toss 35 = .ok (.ifCond .ne 18, 3) := by decide +kernel
theorem dX8_toss_38 : decode cX8_toss 38 = .ok (.aload_n 0, 1) := by decide +kernel
theorem dX8_toss_39 : decode cX8_toss 39 = .ok (.aload_n 0, 1) := by decide +kernel
theorem dX8_toss_40 : decode cX8_toss 40 = .ok (.getfield 34, 3) := by decide +kernel
theorem dX8_toss_43 : decode cX8_toss 43 = .ok (.iconst 0, 1) := by decide +kernel
theorem dX8_toss_44 : decode cX8_toss 44 = .ok (.iaload, 1) := by decide +kernel
theorem dX8_toss_45 : decode cX8_toss 45 = .ok (.iload_n 1, 1) := by decide +kernel
theorem dX8_toss_46 : decode cX8_toss 46 = .ok (.iload_n 2, 1) := by decide +kernel
theorem dX8_toss_47 : decode cX8_toss 47 = .ok (.invokevirtual 160, 3) := by decide +kernel
theorem dX8_toss_50 : decode cX8_toss 50 = .ok (.ifCond .ne 6, 3) := by decide +kernel
theorem dX8_toss_53 : decode cX8_toss 53 = .ok (.bipush (-103), 2) := by decide +kernel
theorem dX8_toss_55 : decode cX8_toss 55 = .ok (.ireturn, 1) := by decide +kernel
theorem dX8_toss_56 : decode cX8_toss 56 = .ok (.iload_n 2, 1) := by decide +kernel
theorem dX8_toss_57 : decode cX8_toss 57 = .ok (.iconst 1, 1) := by decide +kernel
theorem dX8_toss_58 : decode cX8_toss 58 = .ok (.if_icmp .ne 11, 3) := by decide +kernel
theorem dX8_toss_61 : decode cX8_toss 61 = .ok (.aload_n 0, 1) := by decide +kernel
theorem dX8_toss_62 : decode cX8_toss 62 = .ok (.iload_n 1, 1) := by decide +kernel
theorem dX8_toss_63 : decode cX8_toss 63 = .ok (.invokevirtual 151, 3) := by decide +kernel
theorem dX8_toss_66 : decode cX8_toss 66 = .ok (.goto 4, 3) := by decide +kernel
theorem dX8_toss_69 : decode cX8_toss 69 = .ok (.iload_n 1, 1) := by decide +kernel
theorem dX8_toss_70 : decode cX8_toss 70 = .ok (.istore_n 3, 1) := by decide +kernel
theorem dX8_toss_71 : decode cX8_toss 71 = .ok (.aload_n 0, 1) := by decide +kernel
theorem dX8_toss_72 : decode cX8_toss 72 = .ok (.dup, 1) := by decide +kernel
theorem dX8_toss_73 : decode cX8_toss 73 = .ok (.getfield 121, 3) := by decide +kernel
theorem dX8_toss_76 : decode cX8_toss 76 = .ok (.iconst 2, 1) := by decide +kernel
theorem dX8_toss_77 : decode cX8_toss 77 = .ok (.iload_n 2, 1) := by decide +kernel
theorem dX8_toss_78 : decode cX8_toss 78 = .ok (.iconst 2, 1) := by decide +kernel
theorem dX8_toss_79 : decode cX8_toss 79 = .ok (.if_icmp .ne 11, 3) := by decide +kernel
theorem dX8_toss_82 : decode cX8_toss 82 = .ok (.aload_n 0, 1) := by decide +kernel
theorem dX8_toss_83 : decode cX8_toss 83 = .ok (.iload_n 1, 1) := by decide +kernel
theorem dX8_toss_84 : decode cX8_toss 84 = .ok (.invokevirtual 164, 3) := by decide +kernel
theorem dX8_toss_87 : decode cX8_toss 87 = .ok (.goto 4, 3) := by decide +kernel
theorem dX8_toss_90 : decode cX8_toss 90 = .ok (.iconst 0, 1) := by decide +kernel
theorem dX8_toss_91 : decode cX8_toss 91 = .ok (.iadd, 1) := by decide +kernel
theorem dX8_toss_92 : decode cX8_toss 92 = .ok (.iadd, 1) := by decide +kernel
theorem dX8_toss_93 : decode cX8_toss 93 = .ok (.putfield 121, 3) := by decide +kernel
theorem dX8_toss_96 : decode cX8_toss 96 = .ok (.aload_n 0, 1) := by decide +kernel
theorem dX8_toss_97 : decode cX8_toss 97 = .ok (.iload_n 3, 1) := by decide +kernel
theorem dX8_toss_98 : decode cX8_toss 98 = .ok (.iload_n 2, 1) := by decide +kernel
theorem dX8_toss_99 : decode cX8_toss 99 = .ok (.iconst 2, 1) := by decide +kernel
theorem dX8_toss_100 : decode cX8_toss 100 = .ok (.if_icmp .ge 7, 3) := by decide +kernel
theorem dX8_toss_103 : decode cX8_toss 103 = .ok (.iconst 1, 1) := by decide +kernel
theorem dX8_toss_104 : decode cX8_toss 104 = .ok (.goto 4, 3) := by decide +kernel
theorem dX8_toss_107 : decode cX8_toss 107 = .ok (.iconst 0, 1) := by decide +kernel
theorem dX8_toss_108 : decode cX8_toss 108 = .ok (.invokevirtual 167, 3) := by decide +kernel
theorem dX8_toss_111 : decode cX8_toss 111 = .ok (.iload_n 3, 1) := by decide +kernel
theorem dX8_toss_112 : decode cX8_toss 112 = .ok (.ireturn, 1) := by decide +kernel
set_option maxRecDepth 20000 in
theorem ggX8_carry_X8_isHook : GoodIn wsX8_carry wsX8_isHook := goodIn_r _ [7, 8, 9, 10, 6, 11, 34, 35, 36, 37, 38, 39, 40, 41, 42, 43, 44, 45, 46, 47, 48, 49, 50, 51, 52, 53, 54, 55, 56, 57, 58, 59, 60, 61, 62, 63, 64, 65, 66, 67, 68, 69, 70, 71, 72, 73, 74, 75] (by decide +kernel) (by decide +kernel)
set_option maxRecDepth 20000 in
theorem gX8_carry_X8_isHook : GoodIn wsX8_carry (wsV RX8 130 RX8 yX8_isHook wsX8_isHook) := goodIn_app (goodIn_of _ (by decide +kernel)) ggX8_carry_X8_isHook
set_option maxRecDepth 20000 in
theorem ggX8_carry_X8_isFull : GoodIn wsX8_carry wsX8_isFull := goodIn_r _ [15, 16, 17, 18, 34, 35, 36, 37, 38, 39, 40, 41, 42, 43, 44, 45, 46, 47, 48, 49, 50, 51, 52, 53, 54, 55, 56, 57, 58, 59, 60, 61, 62, 63, 64, 65, 66, 67, 68, 69, 70, 71, 72, 73, 74, 75] (by decide +kernel) (by decide +kernel)
set_option maxRecDepth 20000 in
theorem gX8_carry_X8_isFull : GoodIn wsX8_carry (wsV RX8 154 RX8 yX8_isFull wsX8_isFull) := goodIn_app (goodIn_of _ (by decide +kernel)) ggX8_carry_X8_isFull
set_option maxRecDepth 20000 in
theorem ggX8_carry_X8_walk : GoodIn wsX8_carry wsX8_walk := goodIn_r _ [22, 23, 34, 35, 36, 37, 38, 39, 40, 41, 42, 43, 44, 45, 46, 47, 48, 49, 50, 51, 52, 53, 54, 55, 56, 57, 58, 59, 60, 61, 62, 63, 64, 65, 66, 67, 68, 69, 70, 71, 72, 73, 74, 75] (by decide +kernel) (by decide +kernel)
set_option maxRecDepth 20000 in
theorem gX8_carry_X8_walk : GoodIn wsX8_carry (wsV RX8 164 RX8 yX8_walk wsX8_walk) := goodIn_app (goodIn_of _ (by decide +kernel)) ggX8_carry_X8_walk
set_option maxRecDepth 20000 in
theorem ggX8_carry_X8_comes : GoodIn wsX8_carry wsX8_comes := goodIn_r _ [27, 17, 28, 16, 29, 30, 31, 32, 33, 1, 34, 35, 36, 37, 38, 39, 40, 41, 42, 43, 44, 45, 46, 47, 48, 49, 50, 51, 52, 53, 54, 55, 56, 57, 58, 59, 60, 61, 62, 63, 64, 65, 66, 67, 68, 69, 70, 71, 72, 73, 74, 75] (by decide +kernel) (by decide +kernel)
set_option maxRecDepth 20000 in
theorem gX8_carry_X8_comes : GoodIn wsX8_carry (wsV RX8 167 RX8 yX8_comes wsX8_comes) := goodIn_app (goodIn_of _ (by decide +kernel)) ggX8_carry_X8_comes
theorem dX8_carry_0 : decode cX8_carry 0 = .ok (.aload_n 0, 1) := by decide +kernel
theorem dX8_carry_1 : decode cX8_carry 1 = .ok (.iload_n 1, 1) := by decide +kernel
theorem dX8_carry_2 : decode cX8_carry 2 = .ok (.invokevirtual 130, 3) := by decide +kernel
theorem dX8_carry_5 : decode cX8_carry 5 = .ok (.ifCond .ne 6, 3) := by decide +kernel
theorem dX8_carry_8 : decode cX8_carry 8 = .ok (.bipush (-101), 2) := by decide +kernel
theorem dX8_carry_10 : decode cX8_carry 10 = .ok (.ireturn, 1) := by decide +kernel
theorem dX8_carry_11 : decode cX8_carry 11 = .ok (.aload_n 0, 1) := by decide +kernel
theorem dX8_carry_12 : decode cX8_carry 12 = .ok (.getfield 118, 3) := by decide +kernel
theorem dX8_carry_15 : decode cX8_carry 15 = .ok (.ifCond .eq 11, 3) := by decide +kernel
theorem dX8_carry_18 : decode cX8_carry 18 = .ok (.aload_n 0, 1) := by decide +kernel
theorem dX8_carry_19 : decode cX8_carry 19 = .ok (.iload_n 1, 1) := by decide +kernel
theorem dX8_carry_20 : decode cX8_carry 20 = .ok (.invokevirtual 154, 3) := by decide +kernel
theorem dX8_carry_23 : decode cX8_carry 23 = .ok (.ifCond .eq 6, 3) := by decide +kernel
theorem dX8_carry_26 : decode cX8_carry 26 = .ok (.bipush (-103), 2) := by decide +kernel
theorem dX8_carry_28 : decode cX8_carry 28 = .ok (.ireturn, 1) := by decide +kernel
theorem dX8_carry_29 : decode cX8_carry 29 = .ok (.aload_n 0, 1) := by decide +kernel
theorem dX8_carry_30 : decode cX8_carry 30 = .ok (.dup, 1) := by decide +kernel
theorem dX8_carry_31 : decode cX8_carry 31 = .ok (.getfield 121, 3) := by decide +kernel
theorem dX8_carry_34 : decode cX8_carry 34 = .ok (.aload_n 0, 1) := by decide +kernel
theorem dX8_carry_35 : decode cX8_carry 35 = .ok (.iload_n 1, 1) := by decide +kernel
theorem dX8_carry_36 : decode cX8_carry 36 = .ok (.invokevirtual 164, 3) := by decide +kernel
theorem dX8_carry_39 : decode cX8_carry 39 = .ok (.iadd, 1) := by decide +kernel
theorem dX8_carry_40 : decode cX8_carry 40 = .ok (.putfield 121, 3) := by decide +kernel
theorem dX8_carry_43 : decode cX8_carry 43 = .ok (.aload_n 0, 1) := by decide +kernel
theorem dX8_carry_44 : decode cX8_carry 44 = .ok (.iload_n 1, 1) := by decide +kernel
theorem dX8_carry_45 : decode cX8_carry 45 = .ok (.iconst 0, 1) := by decide +kernel
theorem dX8_carry_46 : decode cX8_carry 46 = .ok (.invokevirtual 167, 3) := by decide +kernel
theorem dX8_carry_49 : decode cX8_carry 49 = .ok (.aload_n 0, 1) := by decide +kernel
theorem dX8_carry_50 : decode cX8_carry 50 = .ok (.getfield 121, 3) := by decide +kernel
theorem dX8_carry_53 : decode cX8_carry 53 = .ok (.ireturn, 1) := by decide +kernel
set_option maxRecDepth 20000 in
theorem ggX8_change_X8_isHook : GoodIn wsX8_change wsX8_isHook := goodIn_r _ [8, 9, 10, 11, 7, 12, 20, 21, 22, 23, 24, 25, 26, 27, 28, 29, 30, 31, 32, 33, 34, 35, 36, 37, 38, 39, 40, 41, 42, 43, 44, 45, 46, 47, 48, 49, 50, 51, 52, 53, 54, 55, 56, 57, 58, 59, 60, 61] (by decide +kernel) (by decide +kernel)
set_option maxRecDepth 20000 in
theorem gX8_change_X8_isHook : GoodIn wsX8_change (wsV RX8 130 RX8 yX8_isHook wsX8_isHook) := goodIn_app (goodIn_of _ (by decide +kernel)) ggX8_change_X8_isHook
set_option maxRecDepth 20000 in
theorem ggX8_change_X8_empty : GoodIn wsX8_change wsX8_empty := goodIn_r _ [16, 1, 17, 18, 19, 20, 21, 22, 23, 24, 25, 26, 27, 28, 29, 30, 31, 32, 33, 34, 35, 36, 37, 38, 39, 40, 41, 42, 43, 44, 45, 46, 47, 48, 49, 50, 51, 52, 53, 54, 55, 56, 57, 58, 59, 60, 61] (by decide +kernel) (by decide +kernel)
set_option maxRecDepth 20000 in
theorem gX8_change_X8_empty : GoodIn wsX8_change (wsV RX8 112 RX8 yX8_empty wsX8_empty) := goodIn_app (goodIn_of _ (by decide +kernel)) ggX8_change_X8_empty
theorem dX8_change_0 : decode cX8_change 0 = .ok (.aload_n 0, 1) := by decide +kernel
theorem dX8_change_1 : decode cX8_change 1 = .ok (.iload_n 1, 1) := by decide +kernel
theorem dX8_change_2 : decode cX8_change 2 = .ok (.invokevirtual 130, 3) := by decide +kernel
theorem dX8_change_5 : decode cX8_change 5 = .ok (.ifCond .ne 6, 3) := by decide +kernel
theorem dX8_change_8 : decode cX8_change 8 = .ok (.bipush (-101), 2) := by decide +kernel
theorem dX8_change_10 : decode cX8_change 10 = .ok (.ireturn, 1) := by decide +kernel
theorem dX8_change_11 : decode cX8_change 11 = .ok (.aload_n 0, 1) := by decide +kernel
theorem dX8_change_12 : decode cX8_change 12 = .ok (.getfield 22, 3) := by decide +kernel
theorem dX8_change_15 : decode cX8_change 15 = .ok (.aload_n 0, 1) := by decide +kernel
theorem dX8_change_16 : decode cX8_change 16 = .ok (.getfield 19, 3) := by decide +kernel
theorem dX8_change_19 : decode cX8_change 19 = .ok (.iload_n 1, 1) := by decide +kernel
theorem dX8_change_20 : decode cX8_change 20 = .ok (.iaload, 1) := by decide +kernel
theorem dX8_change_21 : decode cX8_change 21 = .ok (.iaload, 1) := by decide +kernel
theorem dX8_change_22 : decode cX8_change 22 = .ok (.istore_n 2, 1) := by decide +kernel
theorem dX8_change_23 : decode cX8_change 23 = .ok (.aload_n 0, 1) := by decide +kernel
theorem dX8_change_24 : decode cX8_change 24 = .ok (.aload_n 0, 1) := by decide +kernel
theorem dX8_change_25 : decode cX8_change 25 = .ok (.getfield 19, 3) := by decide +kernel
theorem dX8_change_28 : decode cX8_change 28 = .ok (.iload_n 1, 1) := by decide +kernel
theorem dX8_change_29 : decode cX8_change 29 = .ok (.iaload, 1) := by decide +kernel
theorem dX8_change_30 : decode cX8_change 30 = .ok (.invokevirtual 112, 3) := by decide +kernel
theorem dX8_change_33 : decode cX8_change 33 = .ok (.aload_n 0, 1) := by decide +kernel
theorem dX8_change_34 : decode cX8_change 34 = .ok (.dup, 1) := by decide +kernel
theorem dX8_change_35 : decode cX8_change 35 = .ok (.getfield 121, 3) := by decide +kernel
theorem dX8_change_38 : decode cX8_change 38 = .ok (.bipush 40, 2) := by decide +kernel
theorem dX8_change_40 : decode cX8_change 40 = .ok (.iadd, 1) := by decide +kernel
theorem dX8_change_41 : decode cX8_change 41 = .ok (.putfield 121, 3) := by decide +kernel
theorem dX8_change_44 : decode cX8_change 44 = .ok (.iload_n 2, 1) := by decide +kernel
theorem dX8_change_45 : decode cX8_change 45 = .ok (.ireturn, 1) := by decide +kernel
set_option maxRecDepth 20000 in
theorem ggX8_exchange_X8_isHook : GoodIn wsX8_exchange wsX8_isHook := goodIn_r _ [9, 10, 11, 12, 8, 13, 14, 15, 16, 17, 18, 19, 20, 21, 22, 23, 24, 25, 26, 27, 28, 29, 30, 31, 32, 33, 34, 35, 36, 37, 38, 39, 40, 41, 42, 43, 44, 45, 46, 47, 48, 49, 50, 51, 52, 53, 54, 55] (by decide +kernel) (by decide +kernel)
set_option maxRecDepth 20000 in
theorem gX8_exchange_X8_isHook : GoodIn wsX8_exchange (wsV RX8 130 RX8 yX8_isHook wsX8_isHook) := goodIn_app (goodIn_of _ (by decide +kernel)) ggX8_exchange_X8_isHook
theorem dX8_exchange_0 : decode cX8_exchange 0 = .ok (.aload_n 0, 1) := by decide +kernel
theorem dX8_exchange_1 : decode cX8_exchange 1 = .ok (.iload_n 1, 1) := by decide +kernel
theorem dX8_exchange_2 : decode cX8_exchange 2 = .ok (.invokevirtual 130, 3) := by decide +kernel
theorem dX8_exchange_5 : decode cX8_exchange 5 = .ok (.ifCond .eq 16, 3) := by decide +kernel
theorem dX8_exchange_8 : decode cX8_exchange 8 = .ok (.aload_n 0, 1) := by decide +kernel
theorem dX8_exchange_9 : decode cX8_exchange 9 = .ok (.iload_n 2, 1) := by decide +kernel
theorem dX8_exchange_10 : decode cX8_exchange 10 = .ok (.invokevirtual 130, 3) := by decide +kernel
theorem dX8_exchange_13 : decode cX8_exchange 13 = .ok (.ifCond .eq 8, 3) := by decide +kernel
theorem dX8_exchange_16 : decode cX8_exchange 16 = .ok (.iload_n 1, 1) := by decide +kernel
theorem dX8_exchange_17 : decode cX8_exchange 17 = .ok (.iload_n 2, 1) := by decide +kernel
theorem dX8_exchange_18 : decode cX8_exchange 18 = .ok (.if_icmp .ne 6, 3) := by decide +kernel
theorem dX8_exchange_21 : decode cX8_exchange 21 = .ok (.bipush (-101), 2) := by decide +kernel
theorem dX8_exchange_23 : decode cX8_exchange 23 = .ok (.ireturn, 1) := by decide +kernel
theorem dX8_exchange_24 : decode cX8_exchange 24 = .ok (.aload_n 0, 1) := by decide +kernel
theorem dX8_exchange_25 : decode cX8_exchange 25 = .ok (.getfield 19, 3) := by decide +kernel
theorem dX8_exchange_28 : decode cX8_exchange 28 = .ok (.iload_n 1, 1) := by decide +kernel
theorem dX8_exchange_29 : decode cX8_exchange 29 = .ok (.iaload, 1) := by decide +kernel
theorem dX8_exchange_30 : decode cX8_exchange 30 = .ok (.istore_n 3, 1) := by decide +kernel
theorem dX8_exchange_31 : decode cX8_exchange 31 = .ok (.aload_n 0, 1) := by decide +kernel
theorem dX8_exchange_32 : decode cX8_exchange 32 = .ok (.getfield 19, 3) := by decide +kernel
theorem dX8_exchange_35 : decode cX8_exchange 35 = .ok (.iload_n 2, 1) := by decide +kernel
theorem dX8_exchange_36 : decode cX8_exchange 36 = .ok (.iaload, 1) := by decide +kernel
theorem dX8_exchange_37 : decode cX8_exchange 37 = .ok (.istore 4, 2) := by decide +kernel
theorem dX8_exchange_39 : decode cX8_exchange 39 = .ok (.aload_n 0, 1) := by decide +kernel
theorem dX8_exchange_40 : decode cX8_exchange 40 = .ok (.getfield 22, 3) := by decide +kernel
theorem dX8_exchange_43 : decode cX8_exchange 43 = .ok (.iload_n 3, 1) := by decide +kernel
theorem dX8_exchange_44 : decode cX8_exchange 44 = .ok (.iaload, 1) := by decide +kernel
theorem dX8_exchange_45 : decode cX8_exchange 45 = .ok (.aload_n 0, 1) := by decide +kernel
theorem dX8_exchange_46 : decode cX8_exchange 46 = .ok (.getfield 13, 3) := by decide +kernel
theorem dX8_exchange_49 : decode cX8_exchange 49 = .ok (.iload_n 2, 1) := by decide +kernel
theorem dX8_exchange_50 : decode cX8_exchange 50 = .ok (.iaload, 1) := by decide +kernel
theorem dX8_exchange_51 : decode cX8_exchange 51 = .ok (.if_icmp .gt 19, 3) := by decide +kernel
theorem dX8_exchange_54 : decode cX8_exchange 54 = .ok (.aload_n 0, 1) := by decide +kernel
theorem dX8_exchange_55 : decode cX8_exchange 55 = .ok (.getfield 22, 3) := by decide +kernel
theorem dX8_exchange_58 : decode cX8_exchange 58 = .ok (.iload 4, 2) := by decide +kernel
theorem dX8_exchange_60 : decode cX8_exchange 60 = .ok (.iaload, 1) := by decide +kernel
theorem dX8_exchange_61 : decode cX8_exchange 61 = .ok (.aload_n 0, 1) := by decide +kernel
theorem dX8_exchange_62 : decode cX8_exchange 62 = .ok (.getfield 13, 3) := by decide +kernel
theorem dX8_exchange_65 : decode cX8_exchange 65 = .ok (.iload_n 1, 1) := by decide +kernel
theorem dX8_exchange_66 : decode cX8_exchange 66 = .ok (.iaload, 1) := by decide +kernel
theorem dX8_exchange_67 : decode cX8_exchange 67 = .ok (.if_icmp .le 6, 3) := by decide +kernel
theorem dX8_exchange_70 : decode cX8_exchange 70 = .ok (.bipush (-103), 2) := by decide +kernel
theorem dX8_exchange_72 : decode cX8_exchange 72 = .ok (.ireturn, 1) := by decide +kernel
theorem dX8_exchange_73 : decode cX8_exchange 73 = .ok (.aload_n 0, 1) := by decide +kernel
theorem dX8_exchange_74 : decode cX8_exchange 74 = .ok (.getfield 19, 3) := by decide +kernel
theorem dX8_exchange_77 : decode cX8_exchange 77 = .ok (.iload_n 1, 1) := by decide +kernel
theorem dX8_exchange_78 : decode cX8_exchange 78 = .ok (.iload 4, 2) := by decide +kernel
theorem dX8_exchange_80 : decode cX8_exchange 80 = .ok (.iastore, 1) := by decide +kernel
theorem dX8_exchange_81 : decode cX8_exchange 81 = .ok (.aload_n 0, 1) := by decide +kernel
theorem dX8_exchange_82 : decode cX8_exchange 82 = .ok (.getfield 19, 3) := by decide +kernel
theorem dX8_exchange_85 : decode cX8_exchange 85 = .ok (.iload_n 2, 1) := by decide +kernel
theorem dX8_exchange_86 : decode cX8_exchange 86 = .ok (.iload_n 3, 1) := by decide +kernel
theorem dX8_exchange_87 : decode cX8_exchange 87 = .ok (.iastore, 1) := by decide +kernel
theorem dX8_exchange_88 : decode cX8_exchange 88 = .ok (.aload_n 0, 1) := by decide +kernel
theorem dX8_exchange_89 : decode cX8_exchange 89 = .ok (.dup, 1) := by decide +kernel
theorem dX8_exchange_90 : decode cX8_exchange 90 = .ok (.getfield 121, 3) := by decide +kernel
theorem dX8_exchange_93 : decode cX8_exchange 93 = .ok (.bipush 10, 2) := by decide +kernel
theorem dX8_exchange_95 : decode cX8_exchange 95 = .ok (.iadd, 1) := by decide +kernel
theorem dX8_exchange_96 : decode cX8_exchange 96 = .ok (.putfield 121, 3) := by decide +kernel
theorem dX8_exchange_99 : decode cX8_exchange 99 = .ok (.aload_n 0, 1) := by decide +kernel
theorem dX8_exchange_100 : decode cX8_exchange 100 = .ok (.getfield 121, 3) := by decide +kernel
theorem dX8_exchange_103 : decode cX8_exchange 103 = .ok (.ireturn, 1) := by decide +kernel
set_option maxRecDepth 20000 in
theorem ggX8_costBy_X8_walk : GoodIn wsX8_costBy wsX8_walk := goodIn_r _ [5, 6, 7, 8, 9, 10, 11, 12, 13, 14, 15, 16, 17, 18, 19, 20, 21, 22, 23, 24, 25, 26, 27, 28, 29, 30, 31, 32, 33, 34, 35, 36, 37, 38, 39, 40, 41, 42, 43, 44, 45, 46, 47, 48] (by decide +kernel) (by decide +kernel)
set_option maxRecDepth 20000 in
theorem gX8_costBy_X8_walk : GoodIn wsX8_costBy (wsV RX8 164 RX8 yX8_walk wsX8_walk) := goodIn_app (goodIn_of _ (by decide +kernel)) ggX8_costBy_X8_walk
theorem dX8_costBy_0 : decode cX8_costBy 0 = .ok (.iload_n 1, 1) := by decide +kernel
theorem dX8_costBy_1 : decode cX8_costBy 1 = .ok (.iconst 3, 1) := by decide +kernel
theorem dX8_costBy_2 : decode cX8_costBy 2 = .ok (.if_icmp .ne 13, 3) := by decide +kernel
theorem dX8_costBy_5 : decode cX8_costBy 5 = .ok (.bipush 9, 2) := by decide +kernel
theorem dX8_costBy_7 : decode cX8_costBy 7 = .ok (.iload_n 3, 1) := by decide +kernel
theorem dX8_costBy_8 : decode cX8_costBy 8 = .ok (.iload 4, 2) := by decide +kernel
theorem dX8_costBy_10 : decode cX8_costBy 10 = .ok (.iadd, 1) := by decide +kernel
theorem dX8_costBy_11 : decode cX8_costBy 11 = .ok (.imul, 1) := by decide +kernel
theorem dX8_costBy_12 : decode cX8_costBy 12 = .ok (.goto 4, 3) := by decide +kernel
theorem dX8_costBy_15 : decode cX8_costBy 15 = .ok (.iconst 0, 1) := by decide +kernel
theorem dX8_costBy_16 : decode cX8_costBy 16 = .ok (.istore 5, 2) := by decide +kernel
theorem dX8_costBy_18 : decode cX8_costBy 18 = .ok (.bipush 20, 2) := by decide +kernel
theorem dX8_costBy_20 : decode cX8_costBy 20 = .ok (.bipush 60, 2) := by decide +kernel
theorem dX8_costBy_22 : decode cX8_costBy 22 = .ok (.iload 4, 2) := by decide +kernel
theorem dX8_costBy_24 : decode cX8_costBy 24 = .ok (.imul, 1) := by decide +kernel
theorem dX8_costBy_25 : decode cX8_costBy 25 = .ok (.iadd, 1) := by decide +kernel
theorem dX8_costBy_26 : decode cX8_costBy 26 = .ok (.aload_n 0, 1) := by decide +kernel
theorem dX8_costBy_27 : decode cX8_costBy 27 = .ok (.iload_n 2, 1) := by decide +kernel
theorem dX8_costBy_28 : decode cX8_costBy 28 = .ok (.invokevirtual 164, 3) := by decide +kernel
theorem dX8_costBy_31 : decode cX8_costBy 31 = .ok (.bipush 10, 2) := by decide +kernel
theorem dX8_costBy_33 : decode cX8_costBy 33 = .ok (.iload_n 3, 1) := by decide +kernel
theorem dX8_costBy_34 : decode cX8_costBy 34 = .ok (.isub, 1) := by decide +kernel
theorem dX8_costBy_35 : decode cX8_costBy 35 = .ok (.iload 4, 2) := by decide +kernel
theorem dX8_costBy_37 : decode cX8_costBy 37 = .ok (.isub, 1) := by decide +kernel
theorem dX8_costBy_38 : decode cX8_costBy 38 = .ok (.imul, 1) := by decide +kernel
theorem dX8_costBy_39 : decode cX8_costBy 39 = .ok (.iadd, 1) := by decide +kernel
theorem dX8_costBy_40 : decode cX8_costBy 40 = .ok (.iload 5, 2) := by decide +kernel
theorem dX8_costBy_42 : decode cX8_costBy 42 = .ok (.iadd, 1) := by decide +kernel
theorem dX8_costBy_43 : decode cX8_costBy 43 = .ok (.ireturn, 1) := by decide +kernel
set_option maxRecDepth 20000 in
theorem ggX8_costNow_X8_tenthsOf : GoodIn wsX8_costNow wsX8_tenthsOf := goodIn_r _ [5, 6, 7, 8, 4, 9, 10, 11, 12, 13, 14, 15, 16, 17, 18, 19, 20, 21, 22, 23, 24, 25, 26, 27, 28, 29, 38, 39, 40, 41, 42, 43, 44, 45, 46, 47, 48, 49, 50, 51, 52, 53, 54, 55, 56, 57, 58, 59, 60, 61, 62, 63, 64, 65, 66, 67, 68, 69, 70, 71, 72, 73, 74, 75, 76, 77, 78, 79] (by decide +kernel) (by decide +kernel)
set_option maxRecDepth 20000 in
theorem gX8_costNow_X8_tenthsOf : GoodIn wsX8_costNow (wsV RX8 160 RX8 yX8_tenthsOf wsX8_tenthsOf) := goodIn_app (goodIn_of _ (by decide +kernel)) ggX8_costNow_X8_tenthsOf
set_option maxRecDepth 20000 in
theorem ggX8_costNow_X8_costBy : GoodIn wsX8_costNow wsX8_costBy := goodIn_r _ [33, 34, 35, 36, 4, 37, 10, 38, 39, 40, 41, 42, 43, 44, 45, 46, 47, 48, 49, 50, 51, 52, 53, 54, 55, 56, 57, 58, 59, 60, 61, 62, 63, 64, 65, 66, 67, 68, 69, 70, 71, 72, 73, 74, 75, 76, 77, 78, 79] (by decide +kernel) (by decide +kernel)
set_option maxRecDepth 20000 in
theorem gX8_costNow_X8_costBy : GoodIn wsX8_costNow (wsV RX8 171 RX8 yX8_costBy wsX8_costBy) := goodIn_app (goodIn_of _ (by decide +kernel)) ggX8_costNow_X8_costBy
theorem dX8_costNow_0 : decode cX8_costNow 0 = .ok (.aload_n 0, 1) := by decide +kernel
theorem dX8_costNow_1 : decode cX8_costNow 1 = .ok (.iload_n 1, 1) := by decide +kernel
theorem dX8_costNow_2 : decode cX8_costNow 2 = .ok (.iload_n 2, 1) := by decide +kernel
theorem dX8_costNow_3 : decode cX8_costNow 3 = .ok (.aload_n 0, 1) := by decide +kernel
theorem dX8_costNow_4 : decode cX8_costNow 4 = .ok (.iload_n 1, 1) := by decide +kernel
theorem dX8_costNow_5 : decode cX8_costNow 5 = .ok (.iload_n 2, 1) := by decide +kernel
theorem dX8_costNow_6 : decode cX8_costNow 6 = .ok (.iconst 0, 1) := by decide +kernel
theorem dX8_costNow_7 : decode cX8_costNow 7 = .ok (.invokevirtual 160, 3) := by decide +kernel
theorem dX8_costNow_10 : decode cX8_costNow 10 = .ok (.aload_n 0, 1) := by decide +kernel
theorem dX8_costNow_11 : decode cX8_costNow 11 = .ok (.iload_n 1, 1) := by decide +kernel
theorem dX8_costNow_12 : decode cX8_costNow 12 = .ok (.iload_n 2, 1) := by decide +kernel
theorem dX8_costNow_13 : decode cX8_costNow 13 = .ok (.iconst 1, 1) := by decide +kernel
theorem dX8_costNow_14 : decode cX8_costNow 14 = .ok (.invokevirtual 160, 3) := by decide +kernel
theorem dX8_costNow_17 : decode cX8_costNow 17 = .ok (.invokevirtual 171, 3) := by decide +kernel
theorem dX8_costNow_20 : decode cX8_costNow 20 = .ok (.ireturn, 1) := by decide +kernel
set_option maxRecDepth 20000 in
theorem ggX8_oddsNow_X8_tenthsOf : GoodIn wsX8_oddsNow wsX8_tenthsOf := goodIn_r _ [5, 6, 7, 8, 4, 9, 10, 11, 12, 13, 14, 15, 16, 17, 18, 19, 20, 21, 22, 23, 24, 25, 26, 27, 28, 29, 42, 43, 44, 45, 46, 47, 48, 49, 50, 51, 52, 53, 54, 55, 56, 57, 58, 59, 60, 61, 62, 63, 64, 65, 66, 67, 68, 69, 70, 71, 72, 73, 74, 75, 76, 77, 78, 79, 80, 81, 82, 83] (by decide +kernel) (by decide +kernel)
set_option maxRecDepth 20000 in
theorem gX8_oddsNow_X8_tenthsOf : GoodIn wsX8_oddsNow (wsV RX8 160 RX8 yX8_tenthsOf wsX8_tenthsOf) := goodIn_app (goodIn_of _ (by decide +kernel)) ggX8_oddsNow_X8_tenthsOf
set_option maxRecDepth 20000 in
theorem ggX8_oddsNow_X8_costNow : GoodIn wsX8_oddsNow wsX8_costNow := goodIn_r _ [33, 1, 2, 3, 4, 5, 6, 7, 8, 9, 10, 11, 12, 13, 14, 15, 16, 17, 18, 19, 20, 21, 22, 23, 24, 25, 26, 27, 28, 29, 34, 35, 36, 37, 38, 39, 40, 41, 42, 43, 44, 45, 46, 47, 48, 49, 50, 51, 52, 53, 54, 55, 56, 57, 58, 59, 60, 61, 62, 63, 64, 65, 66, 67, 68, 69, 70, 71, 72, 73, 74, 75, 76, 77, 78, 79, 80, 81, 82, 83] (by decide +kernel) (by decide +kernel)
set_option maxRecDepth 20000 in
theorem gX8_oddsNow_X8_costNow : GoodIn wsX8_oddsNow (wsV RX8 175 RX8 yX8_costNow wsX8_costNow) := goodIn_app (goodIn_of _ (by decide +kernel)) ggX8_oddsNow_X8_costNow
set_option maxRecDepth 20000 in
theorem ggX8_oddsNow_X8_walk : GoodIn wsX8_oddsNow wsX8_walk := goodIn_r _ [41, 10, 42, 43, 44, 45, 46, 47, 48, 49, 50, 51, 52, 53, 54, 55, 56, 57, 58, 59, 60, 61, 62, 63, 64, 65, 66, 67, 68, 69, 70, 71, 72, 73, 74, 75, 76, 77, 78, 79, 80, 81, 82, 83] (by decide +kernel) (by decide +kernel)
set_option maxRecDepth 20000 in
theorem gX8_oddsNow_X8_walk : GoodIn wsX8_oddsNow (wsV RX8 164 RX8 yX8_walk wsX8_walk) := goodIn_app (goodIn_of _ (by decide +kernel)) ggX8_oddsNow_X8_walk
theorem dX8_oddsNow_0 : decode cX8_oddsNow 0 = .ok (.iload_n 3, 1) := by decide +kernel
theorem dX8_oddsNow_1 : decode cX8_oddsNow 1 = .ok (.tableswitch 59 0 4 #[35, 35, 35, 43, 50], 35) := by decide +kernel
theorem dX8_oddsNow_36 : decode cX8_oddsNow 36 = .ok (.aload_n 0, 1) := by decide +kernel
theorem dX8_oddsNow_37 : decode cX8_oddsNow 37 = .ok (.iload_n 1, 1) := by decide +kernel
theorem dX8_oddsNow_38 : decode cX8_oddsNow 38 = .ok (.iload_n 2, 1) := by decide +kernel
theorem dX8_oddsNow_39 : decode cX8_oddsNow 39 = .ok (.iload_n 3, 1) := by decide +kernel
theorem dX8_oddsNow_40 : decode cX8_oddsNow 40 = .ok (.invokevirtual 160, 3) := by decide +kernel
theorem dX8_oddsNow_43 : decode cX8_oddsNow 43 = .ok (.ireturn, 1) := by decide +kernel
theorem dX8_oddsNow_44 : decode cX8_oddsNow 44 = .ok (.aload_n 0, 1) := by decide +kernel
theorem dX8_oddsNow_45 : decode cX8_oddsNow 45 = .ok (.iload_n 1, 1) := by decide +kernel
theorem dX8_oddsNow_46 : decode cX8_oddsNow 46 = .ok (.iload_n 2, 1) := by decide +kernel
theorem dX8_oddsNow_47 : decode cX8_oddsNow 47 = .ok (.invokevirtual 175, 3) := by decide +kernel
theorem dX8_oddsNow_50 : decode cX8_oddsNow 50 = .ok (.ireturn, 1) := by decide +kernel
theorem dX8_oddsNow_51 : decode cX8_oddsNow 51 = .ok (.bipush 10, 2) := by decide +kernel
theorem dX8_oddsNow_53 : decode cX8_oddsNow 53 = .ok (.aload_n 0, 1) := by decide +kernel
theorem dX8_oddsNow_54 : decode cX8_oddsNow 54 = .ok (.iload_n 2, 1) := by decide +kernel
theorem dX8_oddsNow_55 : decode cX8_oddsNow 55 = .ok (.invokevirtual 164, 3) := by decide +kernel
theorem dX8_oddsNow_58 : decode cX8_oddsNow 58 = .ok (.imul, 1) := by decide +kernel
theorem dX8_oddsNow_59 : decode cX8_oddsNow 59 = .ok (.ireturn, 1) := by decide +kernel
theorem dX8_oddsNow_60 : decode cX8_oddsNow 60 = .ok (.aload_n 0, 1) := by decide +kernel
theorem dX8_oddsNow_61 : decode cX8_oddsNow 61 = .ok (.iload_n 1, 1) := by decide +kernel
theorem dX8_oddsNow_62 : decode cX8_oddsNow 62 = .ok (.iload_n 2, 1) := by decide +kernel
theorem dX8_oddsNow_63 : decode cX8_oddsNow 63 = .ok (.invokevirtual 175, 3) := by decide +kernel
theorem dX8_oddsNow_66 : decode cX8_oddsNow 66 = .ok (.bipush 10, 2) := by decide +kernel
theorem dX8_oddsNow_68 : decode cX8_oddsNow 68 = .ok (.aload_n 0, 1) := by decide +kernel
theorem dX8_oddsNow_69 : decode cX8_oddsNow 69 = .ok (.iload_n 2, 1) := by decide +kernel
theorem dX8_oddsNow_70 : decode cX8_oddsNow 70 = .ok (.invokevirtual 164, 3) := by decide +kernel
theorem dX8_oddsNow_73 : decode cX8_oddsNow 73 = .ok (.imul, 1) := by decide +kernel
theorem dX8_oddsNow_74 : decode cX8_oddsNow 74 = .ok (.if_icmp .ge 7, 3) := by decide +kernel
theorem dX8_oddsNow_77 : decode cX8_oddsNow 77 = .ok (.iconst 1, 1) := by decide +kernel
theorem dX8_oddsNow_78 : decode cX8_oddsNow 78 = .ok (.goto 4, 3) := by decide +kernel
theorem dX8_oddsNow_81 : decode cX8_oddsNow 81 = .ok (.iconst 0, 1) := by decide +kernel
theorem dX8_oddsNow_82 : decode cX8_oddsNow 82 = .ok (.ireturn, 1) := by decide +kernel
set_option maxRecDepth 20000 in
theorem ggX8_odds_X8_within : GoodIn wsX8_odds wsX8_within := goodIn_r _ [4] (by decide +kernel) (by decide +kernel)
set_option maxRecDepth 20000 in
theorem gX8_odds_X8_within : GoodIn wsX8_odds (va_wsS RX8 77 yX8_within wsX8_within) := goodIn_app (goodIn_of _ (by decide +kernel)) ggX8_odds_X8_within
set_option maxRecDepth 20000 in
theorem ggX8_odds_X8_isHook : GoodIn wsX8_odds wsX8_isHook := goodIn_r _ [8, 9, 1, 2, 3, 4, 53, 54, 55, 56, 57, 58, 59, 60, 61, 62, 63, 64, 65, 66, 67, 68, 69, 70, 71, 72, 73, 74, 75, 76, 77, 78, 79, 80, 81, 82, 83, 84, 85, 86, 87, 88, 89, 90, 91, 92, 93, 94] (by decide +kernel) (by decide +kernel)
set_option maxRecDepth 20000 in
theorem gX8_odds_X8_isHook : GoodIn wsX8_odds (wsV RX8 130 RX8 yX8_isHook wsX8_isHook) := goodIn_app (goodIn_of _ (by decide +kernel)) ggX8_odds_X8_isHook
set_option maxRecDepth 20000 in
theorem ggX8_odds_X8_oddsNow : GoodIn wsX8_odds wsX8_oddsNow := goodIn_r _ [13, 14, 15, 16, 3, 17, 18, 19, 20, 21, 22, 23, 24, 25, 26, 27, 28, 29, 9, 30, 31, 32, 33, 34, 35, 36, 37, 38, 39, 40, 41, 42, 43, 44, 45, 46, 47, 48, 49, 50, 51, 52, 53, 54, 55, 56, 57, 58, 59, 60, 61, 62, 63, 64, 65, 66, 67, 68, 69, 70, 71, 72, 73, 74, 75, 76, 77, 78, 79, 80, 81, 82, 83, 84, 85, 86, 87, 88, 89, 90, 91, 92, 93, 94] (by decide +kernel) (by decide +kernel)
set_option maxRecDepth 20000 in
theorem gX8_odds_X8_oddsNow : GoodIn wsX8_odds (wsV RX8 178 RX8 yX8_oddsNow wsX8_oddsNow) := goodIn_app (goodIn_of _ (by decide +kernel)) ggX8_odds_X8_oddsNow
theorem dX8_odds_0 : decode cX8_odds 0 = .ok (.iload_n 1, 1) := by decide +kernel
theorem dX8_odds_1 : decode cX8_odds 1 = .ok (.iconst 0, 1) := by decide +kernel
theorem dX8_odds_2 : decode cX8_odds 2 = .ok (.iconst 4, 1) := by decide +kernel
theorem dX8_odds_3 : decode cX8_odds 3 = .ok (.invokestatic 77, 3) := by decide +kernel
theorem dX8_odds_6 : decode cX8_odds 6 = .ok (.ifCond .ne 6, 3) := by decide +kernel
theorem dX8_odds_9 : decode cX8_odds 9 = .ok (.bipush (-102), 2) := by decide +kernel
theorem dX8_odds_11 : decode cX8_odds 11 = .ok (.ireturn, 1) := by decide +kernel
theorem dX8_odds_12 : decode cX8_odds 12 = .ok (.aload_n 0, 1) := by decide +kernel
theorem dX8_odds_13 : decode cX8_odds 13 = .ok (.iload_n 2, 1) := by decide +kernel
theorem dX8_odds_14 : decode cX8_odds 14 = .ok (.invokevirtual 130, 3) := by decide +kernel
theorem dX8_odds_17 : decode cX8_odds 17 = .ok (.ifCond .ne 6, 3) := by decide +kernel
theorem dX8_odds_20 : decode cX8_odds 20 = .ok (.bipush (-101), 2) := by decide +kernel
theorem dX8_odds_22 : decode cX8_odds 22 = .ok (.ireturn, 1) := by decide +kernel
theorem dX8_odds_23 : decode cX8_odds 23 = .ok (.iload_n 3, 1) := by decide +kernel
theorem dX8_odds_24 : decode cX8_odds 24 = .ok (.iconst 0, 1) := by decide +kernel
theorem dX8_odds_25 : decode cX8_odds 25 = .ok (.iconst 5, 1) := by decide +kernel
theorem dX8_odds_26 : decode cX8_odds 26 = .ok (.invokestatic 77, 3) := by decide +kernel
theorem dX8_odds_29 : decode cX8_odds 29 = .ok (.ifCond .eq 13, 3) := by decide +kernel
theorem dX8_odds_32 : decode cX8_odds 32 = .ok (.aload_n 0, 1) := by decide +kernel
theorem dX8_odds_33 : decode cX8_odds 33 = .ok (.iload_n 1, 1) := by decide +kernel
theorem dX8_odds_34 : decode cX8_odds 34 = .ok (.iload_n 2, 1) := by decide +kernel
theorem dX8_odds_35 : decode cX8_odds 35 = .ok (.iload_n 3, 1) := by decide +kernel
theorem dX8_odds_36 : decode cX8_odds 36 = .ok (.invokevirtual 178, 3) := by decide +kernel
theorem dX8_odds_39 : decode cX8_odds 39 = .ok (.goto 5, 3) := by decide +kernel
theorem dX8_odds_42 : decode cX8_odds 42 = .ok (.bipush (-102), 2) := by decide +kernel
theorem dX8_odds_44 : decode cX8_odds 44 = .ok (.ireturn, 1) := by decide +kernel
theorem dX8_ways_0 : decode cX8_ways 0 = .ok (.iconst 1, 1) := by decide +kernel
theorem dX8_ways_1 : decode cX8_ways 1 = .ok (.istore_n 1, 1) := by decide +kernel
theorem dX8_ways_2 : decode cX8_ways 2 = .ok (.iconst 2, 1) := by decide +kernel
theorem dX8_ways_3 : decode cX8_ways 3 = .ok (.istore_n 2, 1) := by decide +kernel
theorem dX8_ways_4 : decode cX8_ways 4 = .ok (.iload_n 2, 1) := by decide +kernel
theorem dX8_ways_5 : decode cX8_ways 5 = .ok (.aload_n 0, 1) := by decide +kernel
theorem dX8_ways_6 : decode cX8_ways 6 = .ok (.getfield 109, 3) := by decide +kernel
theorem dX8_ways_9 : decode cX8_ways 9 = .ok (.if_icmp .gt 13, 3) := by decide +kernel
theorem dX8_ways_12 : decode cX8_ways 12 = .ok (.iload_n 1, 1) := by decide +kernel
theorem dX8_ways_13 : decode cX8_ways 13 = .ok (.iload_n 2, 1) := by decide +kernel
theorem dX8_ways_14 : decode cX8_ways 14 = .ok (.imul, 1) := by decide +kernel
theorem dX8_ways_15 : decode cX8_ways 15 = .ok (.istore_n 1, 1) := by decide +kernel
theorem dX8_ways_16 : decode cX8_ways 16 = .ok (.iinc 2 1, 3) := by decide +kernel
theorem dX8_ways_19 : decode cX8_ways 19 = .ok (.goto (-15), 3) := by decide +kernel
theorem dX8_ways_22 : decode cX8_ways 22 = .ok (.iload_n 1, 1) := by decide +kernel
theorem dX8_ways_23 : decode cX8_ways 23 = .ok (.ireturn, 1) := by decide +kernel
set_option maxRecDepth 20000 in
theorem ggX8_hangBy_X8_ways : GoodIn wsX8_hangBy wsX8_ways := goodIn_r _ [7, 1, 8, 9, 10, 11, 12, 13, 14, 15, 16, 17, 18, 19, 20, 21, 22, 23, 24, 25, 26, 27, 28, 29, 30, 31, 32, 33, 34, 35, 36, 37, 38, 39, 40, 41, 42, 43, 44, 45, 46, 47, 48, 49] (by decide +kernel) (by decide +kernel)
set_option maxRecDepth 20000 in
theorem gX8_hangBy_X8_ways : GoodIn wsX8_hangBy (wsV RX8 181 RX8 yX8_ways wsX8_ways) := goodIn_app (goodIn_of _ (by decide +kernel)) ggX8_hangBy_X8_ways
theorem dX8_hangBy_0 : decode cX8_hangBy 0 = .ok (.iload_n 1, 1) := by decide +kernel
theorem dX8_hangBy_1 : decode cX8_hangBy 1 = .ok (.istore_n 2, 1) := by decide +kernel
theorem dX8_hangBy_2 : decode cX8_hangBy 2 = .ok (.aload_n 0, 1) := by decide +kernel
theorem dX8_hangBy_3 : decode cX8_hangBy 3 = .ok (.invokevirtual 181, 3) := by decide +kernel
theorem dX8_hangBy_6 : decode cX8_hangBy 6 = .ok (.istore_n 3, 1) := by decide +kernel
theorem dX8_hangBy_7 : decode cX8_hangBy 7 = .ok (.iconst 0, 1) := by decide +kernel
theorem dX8_hangBy_8 : decode cX8_hangBy 8 = .ok (.istore 4, 2) := by decide +kernel
theorem dX8_hangBy_10 : decode cX8_hangBy 10 = .ok (.iconst 0, 1) := by decide +kernel
theorem dX8_hangBy_11 : decode cX8_hangBy 11 = .ok (.istore 5, 2) := by decide +kernel
theorem dX8_hangBy_13 : decode cX8_hangBy 13 = .ok (.iload 5, 2) := by decide +kernel
theorem dX8_hangBy_15 : decode cX8_hangBy 15 = .ok (.aload_n 0, 1) := by decide +kernel
theorem dX8_hangBy_16 : decode cX8_hangBy 16 = .ok (.getfield 109, 3) := by decide +kernel
theorem dX8_hangBy_19 : decode cX8_hangBy 19 = .ok (.if_icmp .ge 94, 3) := by decide +kernel
theorem dX8_hangBy_22 : decode cX8_hangBy 22 = .ok (.iload_n 3, 1) := by decide +kernel
theorem dX8_hangBy_23 : decode cX8_hangBy 23 = .ok (.aload_n 0, 1) := by decide +kernel
theorem dX8_hangBy_24 : decode cX8_hangBy 24 = .ok (.getfield 109, 3) := by decide +kernel
theorem dX8_hangBy_27 : decode cX8_hangBy 27 = .ok (.iload 5, 2) := by decide +kernel
theorem dX8_hangBy_29 : decode cX8_hangBy 29 = .ok (.isub, 1) := by decide +kernel
theorem dX8_hangBy_30 : decode cX8_hangBy 30 = .ok (.idiv, 1) := by decide +kernel
theorem dX8_hangBy_31 : decode cX8_hangBy 31 = .ok (.istore_n 3, 1) := by decide +kernel
theorem dX8_hangBy_32 : decode cX8_hangBy 32 = .ok (.iload_n 2, 1) := by decide +kernel
theorem dX8_hangBy_33 : decode cX8_hangBy 33 = .ok (.iload_n 3, 1) := by decide +kernel
theorem dX8_hangBy_34 : decode cX8_hangBy 34 = .ok (.idiv, 1) := by decide +kernel
theorem dX8_hangBy_35 : decode cX8_hangBy 35 = .ok (.istore 6, 2) := by decide +kernel
theorem dX8_hangBy_37 : decode cX8_hangBy 37 = .ok (.iload_n 2, 1) := by decide +kernel
theorem dX8_hangBy_38 : decode cX8_hangBy 38 = .ok (.iload_n 3, 1) := by decide +kernel
theorem dX8_hangBy_39 : decode cX8_hangBy 39 = .ok (.irem, 1) := by decide +kernel
theorem dX8_hangBy_40 : decode cX8_hangBy 40 = .ok (.istore_n 2, 1) := by decide +kernel
theorem dX8_hangBy_41 : decode cX8_hangBy 41 = .ok (.iconst 0, 1) := by decide +kernel
theorem dX8_hangBy_42 : decode cX8_hangBy 42 = .ok (.istore 7, 2) := by decide +kernel
theorem dX8_hangBy_44 : decode cX8_hangBy 44 = .ok (.iload 4, 2) := by decide +kernel
theorem dX8_hangBy_46 : decode cX8_hangBy 46 = .ok (.iload 7, 2) := by decide +kernel
theorem dX8_hangBy_48 : decode cX8_hangBy 48 = .ok (.ishr, 1) := by decide +kernel
theorem dX8_hangBy_49 : decode cX8_hangBy 49 = .ok (.iconst 1, 1) := by decide +kernel
theorem dX8_hangBy_50 : decode cX8_hangBy 50 = .ok (.iand, 1) := by decide +kernel
theorem dX8_hangBy_51 : decode cX8_hangBy 51 = .ok (.iconst 1, 1) := by decide +kernel
theorem dX8_hangBy_52 : decode cX8_hangBy 52 = .ok (.if_icmp .eq 8, 3) := by decide +kernel
theorem dX8_hangBy_55 : decode cX8_hangBy 55 = .ok (.iload 6, 2) := by decide +kernel
theorem dX8_hangBy_57 : decode cX8_hangBy 57 = .ok (.ifCond .le 29, 3) := by decide +kernel
theorem dX8_hangBy_60 : decode cX8_hangBy 60 = .ok (.iload 6, 2) := by decide +kernel
theorem dX8_hangBy_62 : decode cX8_hangBy 62 = .ok (.iload 4, 2) := by decide +kernel
theorem dX8_hangBy_64 : decode cX8_hangBy 64 = .ok (.iload 7, 2) := by decide +kernel
theorem dX8_hangBy_66 : decode cX8_hangBy 66 = .ok (.ishr, 1) := by decide +kernel
theorem dX8_hangBy_67 : decode cX8_hangBy 67 = .ok (.iconst 1, 1) := by decide +kernel
theorem dX8_hangBy_68 : decode cX8_hangBy 68 = .ok (.iand, 1) := by decide +kernel
theorem dX8_hangBy_69 : decode cX8_hangBy 69 = .ok (.ifCond .ne 7, 3) := by decide +kernel
theorem dX8_hangBy_72 : decode cX8_hangBy 72 = .ok (.iconst 1, 1) := by decide +kernel
theorem dX8_hangBy_73 : decode cX8_hangBy 73 = .ok (.goto 4, 3) := by decide +kernel
theorem dX8_hangBy_76 : decode cX8_hangBy 76 = .ok (.iconst 0, 1) := by decide +kernel
theorem dX8_hangBy_77 : decode cX8_hangBy 77 = .ok (.isub, 1) := by decide +kernel
theorem dX8_hangBy_78 : decode cX8_hangBy 78 = .ok (.istore 6, 2) := by decide +kernel
theorem dX8_hangBy_80 : decode cX8_hangBy 80 = .ok (.iinc 7 1, 3) := by decide +kernel
theorem dX8_hangBy_83 : decode cX8_hangBy 83 = .ok (.goto (-39), 3) := by decide +kernel
theorem dX8_hangBy_86 : decode cX8_hangBy 86 = .ok (.iload 4, 2) := by decide +kernel
theorem dX8_hangBy_88 : decode cX8_hangBy 88 = .ok (.iconst 1, 1) := by decide +kernel
theorem dX8_hangBy_89 : decode cX8_hangBy 89 = .ok (.iload 7, 2) := by decide +kernel
theorem dX8_hangBy_91 : decode cX8_hangBy 91 = .ok (.ishl, 1) := by decide +kernel
theorem dX8_hangBy_92 : decode cX8_hangBy 92 = .ok (.ior, 1) := by decide +kernel
theorem dX8_hangBy_93 : decode cX8_hangBy 93 = .ok (.istore 4, 2) := by decide +kernel
theorem dX8_hangBy_95 : decode cX8_hangBy 95 = .ok (.aload_n 0, 1) := by decide +kernel
theorem dX8_hangBy_96 : decode cX8_hangBy 96 = .ok (.getfield 19, 3) := by decide +kernel
theorem dX8_hangBy_99 : decode cX8_hangBy 99 = .ok (.bipush 6, 2) := by decide +kernel
theorem dX8_hangBy_101 : decode cX8_hangBy 101 = .ok (.iload 5, 2) := by decide +kernel
theorem dX8_hangBy_103 : decode cX8_hangBy 103 = .ok (.iadd, 1) := by decide +kernel
theorem dX8_hangBy_104 : decode cX8_hangBy 104 = .ok (.iload 7, 2) := by decide +kernel
theorem dX8_hangBy_106 : decode cX8_hangBy 106 = .ok (.iastore, 1) := by decide +kernel
theorem dX8_hangBy_107 : decode cX8_hangBy 107 = .ok (.iinc 5 1, 3) := by decide +kernel
theorem dX8_hangBy_110 : decode cX8_hangBy 110 = .ok (.goto (-97), 3) := by decide +kernel
theorem dX8_hangBy_113 : decode cX8_hangBy 113 = .ok (.return_, 1) := by decide +kernel
set_option maxRecDepth 20000 in
theorem ggX8_takesOn_X8_tenthsIn : GoodIn wsX8_takesOn wsX8_tenthsIn := goodIn_r _ [5, 6, 7, 8, 4, 9, 22, 23, 24, 25, 26, 27, 28, 29, 30, 31, 32, 33, 34, 35, 36, 37, 38, 39, 40, 41, 42, 43, 44, 45, 46, 47, 48, 49, 50, 51, 52, 53, 54, 55, 56, 57, 58, 59, 60, 61, 62, 63] (by decide +kernel) (by decide +kernel)
set_option maxRecDepth 20000 in
theorem gX8_takesOn_X8_tenthsIn : GoodIn wsX8_takesOn (wsV RX8 148 RX8 yX8_tenthsIn wsX8_tenthsIn) := goodIn_app (goodIn_of _ (by decide +kernel)) ggX8_takesOn_X8_tenthsIn
set_option maxRecDepth 20000 in
theorem ggX8_takesOn_X8_tenthsNext : GoodIn wsX8_takesOn wsX8_tenthsNext := goodIn_r _ [13, 1, 2, 3, 4, 5, 6, 7, 8, 9, 22, 23, 24, 25, 26, 27, 28, 29, 30, 31, 32, 33, 34, 35, 36, 37, 38, 39, 40, 41, 42, 43, 44, 45, 46, 47, 48, 49, 50, 51, 52, 53, 54, 55, 56, 57, 58, 59, 60, 61, 62, 63] (by decide +kernel) (by decide +kernel)
set_option maxRecDepth 20000 in
theorem gX8_takesOn_X8_tenthsNext : GoodIn wsX8_takesOn (wsV RX8 157 RX8 yX8_tenthsNext wsX8_tenthsNext) := goodIn_app (goodIn_of _ (by decide +kernel)) ggX8_takesOn_X8_tenthsNext
set_option maxRecDepth 20000 in
theorem ggX8_takesOn_X8_costBy : GoodIn wsX8_takesOn wsX8_costBy := goodIn_r _ [17, 18, 19, 20, 4, 21, 6, 22, 23, 24, 25, 26, 27, 28, 29, 30, 31, 32, 33, 34, 35, 36, 37, 38, 39, 40, 41, 42, 43, 44, 45, 46, 47, 48, 49, 50, 51, 52, 53, 54, 55, 56, 57, 58, 59, 60, 61, 62, 63] (by decide +kernel) (by decide +kernel)
set_option maxRecDepth 20000 in
theorem gX8_takesOn_X8_costBy : GoodIn wsX8_takesOn (wsV RX8 171 RX8 yX8_costBy wsX8_costBy) := goodIn_app (goodIn_of _ (by decide +kernel)) ggX8_takesOn_X8_costBy
set_option maxRecDepth 20000 in
theorem ggX8_takesOn_X8_walk : GoodIn wsX8_takesOn wsX8_walk := goodIn_r _ [21, 6, 22, 23, 24, 25, 26, 27, 28, 29, 30, 31, 32, 33, 34, 35, 36, 37, 38, 39, 40, 41, 42, 43, 44, 45, 46, 47, 48, 49, 50, 51, 52, 53, 54, 55, 56, 57, 58, 59, 60, 61, 62, 63] (by decide +kernel) (by decide +kernel)
set_option maxRecDepth 20000 in
theorem gX8_takesOn_X8_walk : GoodIn wsX8_takesOn (wsV RX8 164 RX8 yX8_walk wsX8_walk) := goodIn_app (goodIn_of _ (by decide +kernel)) ggX8_takesOn_X8_walk
theorem dX8_takesOn_0 : decode cX8_takesOn 0 = .ok (.aload_n 0, 1) := by decide +kernel
theorem dX8_takesOn_1 : decode cX8_takesOn 1 = .ok (.iconst 0, 1) := by decide +kernel
theorem dX8_takesOn_2 : decode cX8_takesOn 2 = .ok (.iload_n 1, 1) := by decide +kernel
theorem dX8_takesOn_3 : decode cX8_takesOn 3 = .ok (.aload_n 0, 1) := by decide +kernel
theorem dX8_takesOn_4 : decode cX8_takesOn 4 = .ok (.iconst 0, 1) := by decide +kernel
theorem dX8_takesOn_5 : decode cX8_takesOn 5 = .ok (.iload_n 1, 1) := by decide +kernel
theorem dX8_takesOn_6 : decode cX8_takesOn 6 = .ok (.invokevirtual 148, 3) := by decide +kernel
theorem dX8_takesOn_9 : decode cX8_takesOn 9 = .ok (.aload_n 0, 1) := by decide +kernel
theorem dX8_takesOn_10 : decode cX8_takesOn 10 = .ok (.iconst 0, 1) := by decide +kernel
theorem dX8_takesOn_11 : decode cX8_takesOn 11 = .ok (.iload_n 1, 1) := by decide +kernel
theorem dX8_takesOn_12 : decode cX8_takesOn 12 = .ok (.invokevirtual 157, 3) := by decide +kernel
theorem dX8_takesOn_15 : decode cX8_takesOn 15 = .ok (.invokevirtual 171, 3) := by decide +kernel
theorem dX8_takesOn_18 : decode cX8_takesOn 18 = .ok (.istore_n 2, 1) := by decide +kernel
theorem dX8_takesOn_19 : decode cX8_takesOn 19 = .ok (.iload_n 2, 1) := by decide +kernel
theorem dX8_takesOn_20 : decode cX8_takesOn 20 = .ok (.bipush 10, 2) := by decide +kernel
theorem dX8_takesOn_22 : decode cX8_takesOn 22 = .ok (.aload_n 0, 1) := by decide +kernel
theorem dX8_takesOn_23 : decode cX8_takesOn 23 = .ok (.iload_n 1, 1) := by decide +kernel
theorem dX8_takesOn_24 : decode cX8_takesOn 24 = .ok (.invokevirtual 164, 3) := by decide +kernel
theorem dX8_takesOn_27 : decode cX8_takesOn 27 = .ok (.imul, 1) := by decide +kernel
theorem dX8_takesOn_28 : decode cX8_takesOn 28 = .ok (.if_icmp .ge 7, 3) := by decide +kernel
theorem dX8_takesOn_31 : decode cX8_takesOn 31 = .ok (.iload_n 2, 1) := by decide +kernel
theorem dX8_takesOn_32 : decode cX8_takesOn 32 = .ok (.goto 11, 3) := by decide +kernel
theorem dX8_takesOn_35 : decode cX8_takesOn 35 = .ok (.bipush 10, 2) := by decide +kernel
theorem dX8_takesOn_37 : decode cX8_takesOn 37 = .ok (.aload_n 0, 1) := by decide +kernel
theorem dX8_takesOn_38 : decode cX8_takesOn 38 = .ok (.iload_n 1, 1) := by decide +kernel
theorem dX8_takesOn_39 : decode cX8_takesOn 39 = .ok (.invokevirtual 164, 3) := by decide +kernel
theorem dX8_takesOn_42 : decode cX8_takesOn 42 = .ok (.imul, 1) := by decide +kernel
theorem dX8_takesOn_43 : decode cX8_takesOn 43 = .ok (.ireturn, 1) := by decide +kernel
set_option maxRecDepth 20000 in
theorem ggX8_takesBy_X8_takesOn : GoodIn wsX8_takesBy wsX8_takesOn := goodIn_r _ [8, 9, 10, 11, 7, 12, 13, 14, 15, 16, 17, 18, 19, 20, 21, 22, 23, 24, 25, 26, 27, 28, 29, 30, 31, 32, 33, 34, 35, 36, 37, 38, 39, 40, 41, 42, 43, 44, 45, 46, 47, 48, 49, 50, 51, 52, 53, 54, 55, 56, 57, 58, 59, 60, 61, 62, 63, 64, 65, 66, 67, 68, 69, 70] (by decide +kernel) (by decide +kernel)
set_option maxRecDepth 20000 in
theorem gX8_takesBy_X8_takesOn : GoodIn wsX8_takesBy (wsV RX8 185 RX8 yX8_takesOn wsX8_takesOn) := goodIn_app (goodIn_of _ (by decide +kernel)) ggX8_takesBy_X8_takesOn
theorem dX8_takesBy_0 : decode cX8_takesBy 0 = .ok (.iconst 0, 1) := by decide +kernel
theorem dX8_takesBy_1 : decode cX8_takesBy 1 = .ok (.istore_n 1, 1) := by decide +kernel
theorem dX8_takesBy_2 : decode cX8_takesBy 2 = .ok (.iconst 0, 1) := by decide +kernel
theorem dX8_takesBy_3 : decode cX8_takesBy 3 = .ok (.istore_n 2, 1) := by decide +kernel
theorem dX8_takesBy_4 : decode cX8_takesBy 4 = .ok (.iload_n 2, 1) := by decide +kernel
theorem dX8_takesBy_5 : decode cX8_takesBy 5 = .ok (.aload_n 0, 1) := by decide +kernel
theorem dX8_takesBy_6 : decode cX8_takesBy 6 = .ok (.getfield 109, 3) := by decide +kernel
theorem dX8_takesBy_9 : decode cX8_takesBy 9 = .ok (.if_icmp .ge 32, 3) := by decide +kernel
theorem dX8_takesBy_12 : decode cX8_takesBy 12 = .ok (.iload_n 1, 1) := by decide +kernel
theorem dX8_takesBy_13 : decode cX8_takesBy 13 = .ok (.aload_n 0, 1) := by decide +kernel
theorem dX8_takesBy_14 : decode cX8_takesBy 14 = .ok (.getfield 16, 3) := by decide +kernel
theorem dX8_takesBy_17 : decode cX8_takesBy 17 = .ok (.aload_n 0, 1) := by decide +kernel
theorem dX8_takesBy_18 : decode cX8_takesBy 18 = .ok (.getfield 19, 3) := by decide +kernel
theorem dX8_takesBy_21 : decode cX8_takesBy 21 = .ok (.bipush 6, 2) := by decide +kernel
theorem dX8_takesBy_23 : decode cX8_takesBy 23 = .ok (.iload_n 2, 1) := by decide +kernel
theorem dX8_takesBy_24 : decode cX8_takesBy 24 = .ok (.iadd, 1) := by decide +kernel
theorem dX8_takesBy_25 : decode cX8_takesBy 25 = .ok (.iaload, 1) := by decide +kernel
theorem dX8_takesBy_26 : decode cX8_takesBy 26 = .ok (.iaload, 1) := by decide +kernel
theorem dX8_takesBy_27 : decode cX8_takesBy 27 = .ok (.aload_n 0, 1) := by decide +kernel
theorem dX8_takesBy_28 : decode cX8_takesBy 28 = .ok (.iload_n 2, 1) := by decide +kernel
theorem dX8_takesBy_29 : decode cX8_takesBy 29 = .ok (.invokevirtual 185, 3) := by decide +kernel
theorem dX8_takesBy_32 : decode cX8_takesBy 32 = .ok (.imul, 1) := by decide +kernel
theorem dX8_takesBy_33 : decode cX8_takesBy 33 = .ok (.iadd, 1) := by decide +kernel
theorem dX8_takesBy_34 : decode cX8_takesBy 34 = .ok (.istore_n 1, 1) := by decide +kernel
theorem dX8_takesBy_35 : decode cX8_takesBy 35 = .ok (.iinc 2 1, 3) := by decide +kernel
theorem dX8_takesBy_38 : decode cX8_takesBy 38 = .ok (.goto (-34), 3) := by decide +kernel
theorem dX8_takesBy_41 : decode cX8_takesBy 41 = .ok (.iload_n 1, 1) := by decide +kernel
theorem dX8_takesBy_42 : decode cX8_takesBy 42 = .ok (.ireturn, 1) := by decide +kernel
theorem dX8_hookOf_0 : decode cX8_hookOf 0 = .ok (.iconst 0, 1) := by decide +kernel
theorem dX8_hookOf_1 : decode cX8_hookOf 1 = .ok (.istore_n 3, 1) := by decide +kernel
theorem dX8_hookOf_2 : decode cX8_hookOf 2 = .ok (.iconst 0, 1) := by decide +kernel
theorem dX8_hookOf_3 : decode cX8_hookOf 3 = .ok (.istore 4, 2) := by decide +kernel
theorem dX8_hookOf_5 : decode cX8_hookOf 5 = .ok (.iload 4, 2) := by decide +kernel
theorem dX8_hookOf_7 : decode cX8_hookOf 7 = .ok (.aload_n 0, 1) := by decide +kernel
theorem dX8_hookOf_8 : decode cX8_hookOf 8 = .ok (.getfield 109, 3) := by decide +kernel
theorem dX8_hookOf_11 : decode cX8_hookOf 11 = .ok (.if_icmp .ge 29, 3) := by decide +kernel
theorem dX8_hookOf_14 : decode cX8_hookOf 14 = .ok (.aload_n 0, 1) := by decide +kernel
theorem dX8_hookOf_15 : decode cX8_hookOf 15 = .ok (.getfield 19, 3) := by decide +kernel
theorem dX8_hookOf_18 : decode cX8_hookOf 18 = .ok (.iload_n 1, 1) := by decide +kernel
theorem dX8_hookOf_19 : decode cX8_hookOf 19 = .ok (.iload 4, 2) := by decide +kernel
theorem dX8_hookOf_21 : decode cX8_hookOf 21 = .ok (.iadd, 1) := by decide +kernel
theorem dX8_hookOf_22 : decode cX8_hookOf 22 = .ok (.iaload, 1) := by decide +kernel
theorem dX8_hookOf_23 : decode cX8_hookOf 23 = .ok (.iload_n 2, 1) := by decide +kernel
theorem dX8_hookOf_24 : decode cX8_hookOf 24 = .ok (.if_icmp .ne 8, 3) := by decide +kernel
theorem dX8_hookOf_27 : decode cX8_hookOf 27 = .ok (.iload 4, 2) := by decide +kernel
theorem dX8_hookOf_29 : decode cX8_hookOf 29 = .ok (.goto 4, 3) := by decide +kernel
theorem dX8_hookOf_32 : decode cX8_hookOf 32 = .ok (.iload_n 3, 1) := by decide +kernel
theorem dX8_hookOf_33 : decode cX8_hookOf 33 = .ok (.istore_n 3, 1) := by decide +kernel
theorem dX8_hookOf_34 : decode cX8_hookOf 34 = .ok (.iinc 4 1, 3) := by decide +kernel
theorem dX8_hookOf_37 : decode cX8_hookOf 37 = .ok (.goto (-32), 3) := by decide +kernel
theorem dX8_hookOf_40 : decode cX8_hookOf 40 = .ok (.iload_n 3, 1) := by decide +kernel
theorem dX8_hookOf_41 : decode cX8_hookOf 41 = .ok (.ireturn, 1) := by decide +kernel
set_option maxRecDepth 20000 in
theorem ggX8_exchanges_X8_hookOf : GoodIn wsX8_exchanges wsX8_hookOf := goodIn_r _ [7, 1, 2, 8, 9, 10, 11, 12, 13, 14, 15, 16, 17, 18, 19, 20, 21, 22, 23, 24, 25, 26, 27, 28, 29, 30, 31, 32, 33, 34, 35, 36, 37, 38, 39, 40, 41, 42, 43, 44, 45, 46, 47, 48, 49] (by decide +kernel) (by decide +kernel)
set_option maxRecDepth 20000 in
theorem gX8_exchanges_X8_hookOf : GoodIn wsX8_exchanges (wsV RX8 188 RX8 yX8_hookOf wsX8_hookOf) := goodIn_app (goodIn_of _ (by decide +kernel)) ggX8_exchanges_X8_hookOf
theorem dX8_exchanges_0 : decode cX8_exchanges 0 = .ok (.iconst 0, 1) := by decide +kernel
theorem dX8_exchanges_1 : decode cX8_exchanges 1 = .ok (.istore_n 1, 1) := by decide +kernel
theorem dX8_exchanges_2 : decode cX8_exchanges 2 = .ok (.iconst 0, 1) := by decide +kernel
theorem dX8_exchanges_3 : decode cX8_exchanges 3 = .ok (.istore_n 2, 1) := by decide +kernel
theorem dX8_exchanges_4 : decode cX8_exchanges 4 = .ok (.iconst 0, 1) := by decide +kernel
theorem dX8_exchanges_5 : decode cX8_exchanges 5 = .ok (.istore_n 3, 1) := by decide +kernel
theorem dX8_exchanges_6 : decode cX8_exchanges 6 = .ok (.iload_n 3, 1) := by decide +kernel
theorem dX8_exchanges_7 : decode cX8_exchanges 7 = .ok (.aload_n 0, 1) := by decide +kernel
theorem dX8_exchanges_8 : decode cX8_exchanges 8 = .ok (.getfield 109, 3) := by decide +kernel
theorem dX8_exchanges_11 : decode cX8_exchanges 11 = .ok (.if_icmp .ge 64, 3) := by decide +kernel
theorem dX8_exchanges_14 : decode cX8_exchanges 14 = .ok (.iload_n 1, 1) := by decide +kernel
theorem dX8_exchanges_15 : decode cX8_exchanges 15 = .ok (.iload_n 2, 1) := by decide +kernel
theorem dX8_exchanges_16 : decode cX8_exchanges 16 = .ok (.iload_n 3, 1) := by decide +kernel
theorem dX8_exchanges_17 : decode cX8_exchanges 17 = .ok (.ishr, 1) := by decide +kernel
theorem dX8_exchanges_18 : decode cX8_exchanges 18 = .ok (.iconst 1, 1) := by decide +kernel
theorem dX8_exchanges_19 : decode cX8_exchanges 19 = .ok (.iand, 1) := by decide +kernel
theorem dX8_exchanges_20 : decode cX8_exchanges 20 = .ok (.ifCond .ne 7, 3) := by decide +kernel
theorem dX8_exchanges_23 : decode cX8_exchanges 23 = .ok (.iconst 1, 1) := by decide +kernel
theorem dX8_exchanges_24 : decode cX8_exchanges 24 = .ok (.goto 4, 3) := by decide +kernel
theorem dX8_exchanges_27 : decode cX8_exchanges 27 = .ok (.iconst 0, 1) := by decide +kernel
theorem dX8_exchanges_28 : decode cX8_exchanges 28 = .ok (.iadd, 1) := by decide +kernel
theorem dX8_exchanges_29 : decode cX8_exchanges 29 = .ok (.istore_n 1, 1) := by decide +kernel
theorem dX8_exchanges_30 : decode cX8_exchanges 30 = .ok (.iload_n 3, 1) := by decide +kernel
theorem dX8_exchanges_31 : decode cX8_exchanges 31 = .ok (.istore 4, 2) := by decide +kernel
theorem dX8_exchanges_33 : decode cX8_exchanges 33 = .ok (.iload_n 2, 1) := by decide +kernel
theorem dX8_exchanges_34 : decode cX8_exchanges 34 = .ok (.iload 4, 2) := by decide +kernel
theorem dX8_exchanges_36 : decode cX8_exchanges 36 = .ok (.ishr, 1) := by decide +kernel
theorem dX8_exchanges_37 : decode cX8_exchanges 37 = .ok (.iconst 1, 1) := by decide +kernel
theorem dX8_exchanges_38 : decode cX8_exchanges 38 = .ok (.iand, 1) := by decide +kernel
theorem dX8_exchanges_39 : decode cX8_exchanges 39 = .ok (.ifCond .ne 30, 3) := by decide +kernel
theorem dX8_exchanges_42 : decode cX8_exchanges 42 = .ok (.iload_n 2, 1) := by decide +kernel
theorem dX8_exchanges_43 : decode cX8_exchanges 43 = .ok (.iconst 1, 1) := by decide +kernel
theorem dX8_exchanges_44 : decode cX8_exchanges 44 = .ok (.iload 4, 2) := by decide +kernel
theorem dX8_exchanges_46 : decode cX8_exchanges 46 = .ok (.ishl, 1) := by decide +kernel
theorem dX8_exchanges_47 : decode cX8_exchanges 47 = .ok (.ior, 1) := by decide +kernel
theorem dX8_exchanges_48 : decode cX8_exchanges 48 = .ok (.istore_n 2, 1) := by decide +kernel
theorem dX8_exchanges_49 : decode cX8_exchanges 49 = .ok (.aload_n 0, 1) := by decide +kernel
theorem dX8_exchanges_50 : decode cX8_exchanges 50 = .ok (.iconst 0, 1) := by decide +kernel
theorem dX8_exchanges_51 : decode cX8_exchanges 51 = .ok (.aload_n 0, 1) := by decide +kernel
theorem dX8_exchanges_52 : decode cX8_exchanges 52 = .ok (.getfield 19, 3) := by decide +kernel
theorem dX8_exchanges_55 : decode cX8_exchanges 55 = .ok (.bipush 6, 2) := by decide +kernel
theorem dX8_exchanges_57 : decode cX8_exchanges 57 = .ok (.iload 4, 2) := by decide +kernel
theorem dX8_exchanges_59 : decode cX8_exchanges 59 = .ok (.iadd, 1) := by decide +kernel
theorem dX8_exchanges_60 : decode cX8_exchanges 60 = .ok (.iaload, 1) := by decide +kernel
theorem dX8_exchanges_61 : decode cX8_exchanges 61 = .ok (.invokevirtual 188, 3) := by decide +kernel
theorem dX8_exchanges_64 : decode cX8_exchanges 64 = .ok (.istore 4, 2) := by decide +kernel
theorem dX8_exchanges_66 : decode cX8_exchanges 66 = .ok (.goto (-33), 3) := by decide +kernel
theorem dX8_exchanges_69 : decode cX8_exchanges 69 = .ok (.iinc 3 1, 3) := by decide +kernel
theorem dX8_exchanges_72 : decode cX8_exchanges 72 = .ok (.goto (-66), 3) := by decide +kernel
theorem dX8_exchanges_75 : decode cX8_exchanges 75 = .ok (.aload_n 0, 1) := by decide +kernel
theorem dX8_exchanges_76 : decode cX8_exchanges 76 = .ok (.getfield 109, 3) := by decide +kernel
theorem dX8_exchanges_79 : decode cX8_exchanges 79 = .ok (.iload_n 1, 1) := by decide +kernel
theorem dX8_exchanges_80 : decode cX8_exchanges 80 = .ok (.isub, 1) := by decide +kernel
theorem dX8_exchanges_81 : decode cX8_exchanges 81 = .ok (.ireturn, 1) := by decide +kernel
set_option maxRecDepth 20000 in
theorem ggX8_hangingNow_X8_ways : GoodIn wsX8_hangingNow wsX8_ways := goodIn_r _ [8, 2, 50, 51, 52, 53, 54, 55, 56, 57, 58, 59, 60, 61, 62, 63, 64, 65, 66, 67, 68, 69, 70, 71, 72, 73, 74, 75, 76, 77, 78, 79, 80, 81, 82, 83, 84, 85, 86, 87, 88, 89, 90, 91] (by decide +kernel) (by decide +kernel)
set_option maxRecDepth 20000 in
theorem gX8_hangingNow_X8_ways : GoodIn wsX8_hangingNow (wsV RX8 181 RX8 yX8_ways wsX8_ways) := goodIn_app (goodIn_of _ (by decide +kernel)) ggX8_hangingNow_X8_ways
set_option maxRecDepth 20000 in
theorem ggX8_hangingNow_X8_hangBy : GoodIn wsX8_hangingNow wsX8_hangBy := goodIn_r _ [12, 2, 3, 4, 5, 6, 7, 8, 50, 51, 52, 53, 54, 55, 56, 57, 58, 59, 60, 61, 62, 63, 64, 65, 66, 67, 68, 69, 70, 71, 72, 73, 74, 75, 76, 77, 78, 79, 80, 81, 82, 83, 84, 85, 86, 87, 88, 89, 90, 91] (by decide +kernel) (by decide +kernel)
set_option maxRecDepth 20000 in
theorem gX8_hangingNow_X8_hangBy : GoodIn wsX8_hangingNow (wsV RX8 192 RX8 yX8_hangBy wsX8_hangBy) := goodIn_app (goodIn_of _ (by decide +kernel)) ggX8_hangingNow_X8_hangBy
set_option maxRecDepth 20000 in
theorem ggX8_hangingNow_X8_takesBy : GoodIn wsX8_hangingNow wsX8_takesBy := goodIn_r _ [16, 2, 17, 3, 18, 19, 20, 7, 21, 22, 23, 24, 25, 26, 27, 28, 29, 30, 31, 32, 33, 34, 35, 36, 37, 38, 39, 40, 41, 50, 51, 52, 53, 54, 55, 56, 57, 58, 59, 60, 61, 62, 63, 64, 65, 66, 67, 68, 69, 70, 71, 72, 73, 74, 75, 76, 77, 78, 79, 80, 81, 82, 83, 84, 85, 86, 87, 88, 89, 90, 91] (by decide +kernel) (by decide +kernel)
set_option maxRecDepth 20000 in
theorem gX8_hangingNow_X8_takesBy : GoodIn wsX8_hangingNow (wsV RX8 195 RX8 yX8_takesBy wsX8_takesBy) := goodIn_app (goodIn_of _ (by decide +kernel)) ggX8_hangingNow_X8_takesBy
set_option maxRecDepth 20000 in
theorem ggX8_hangingNow_X8_exchanges : GoodIn wsX8_hangingNow wsX8_exchanges := goodIn_r _ [45, 2, 3, 46, 47, 48, 7, 49, 50, 51, 52, 53, 54, 55, 56, 57, 58, 59, 60, 61, 62, 63, 64, 65, 66, 67, 68, 69, 70, 71, 72, 73, 74, 75, 76, 77, 78, 79, 80, 81, 82, 83, 84, 85, 86, 87, 88, 89, 90, 91] (by decide +kernel) (by decide +kernel)
set_option maxRecDepth 20000 in
theorem gX8_hangingNow_X8_exchanges : GoodIn wsX8_hangingNow (wsV RX8 198 RX8 yX8_exchanges wsX8_exchanges) := goodIn_app (goodIn_of _ (by decide +kernel)) ggX8_hangingNow_X8_exchanges
theorem dX8_hangingNow_0 : decode cX8_hangingNow 0 = .ok (.iconst (-1), 1) := by decide +kernel
theorem dX8_hangingNow_1 : decode cX8_hangingNow 1 = .ok (.istore_n 2, 1) := by decide +kernel
theorem dX8_hangingNow_2 : decode cX8_hangingNow 2 = .ok (.ldc 191, 2) := by decide +kernel
theorem dX8_hangingNow_4 : decode cX8_hangingNow 4 = .ok (.istore_n 3, 1) := by decide +kernel
theorem dX8_hangingNow_5 : decode cX8_hangingNow 5 = .ok (.iconst 0, 1) := by decide +kernel
theorem dX8_hangingNow_6 : decode cX8_hangingNow 6 = .ok (.istore 4, 2) := by decide +kernel
theorem dX8_hangingNow_8 : decode cX8_hangingNow 8 = .ok (.iload 4, 2) := by decide +kernel
theorem dX8_hangingNow_10 : decode cX8_hangingNow 10 = .ok (.aload_n 0, 1) := by decide +kernel
theorem dX8_hangingNow_11 : decode cX8_hangingNow 11 = .ok (.invokevirtual 181, 3) := by decide +kernel
theorem dX8_hangingNow_14 : decode cX8_hangingNow 14 = .ok (.if_icmp .ge 47, 3) := by decide +kernel
theorem dX8_hangingNow_17 : decode cX8_hangingNow 17 = .ok (.aload_n 0, 1) := by decide +kernel
theorem dX8_hangingNow_18 : decode cX8_hangingNow 18 = .ok (.iload 4, 2) := by decide +kernel
theorem dX8_hangingNow_20 : decode cX8_hangingNow 20 = .ok (.invokevirtual 192, 3) := by decide +kernel
theorem dX8_hangingNow_23 : decode cX8_hangingNow 23 = .ok (.aload_n 0, 1) := by decide +kernel
theorem dX8_hangingNow_24 : decode cX8_hangingNow 24 = .ok (.invokevirtual 195, 3) := by decide +kernel
theorem dX8_hangingNow_27 : decode cX8_hangingNow 27 = .ok (.istore 5, 2) := by decide +kernel
theorem dX8_hangingNow_29 : decode cX8_hangingNow 29 = .ok (.iload 5, 2) := by decide +kernel
theorem dX8_hangingNow_31 : decode cX8_hangingNow 31 = .ok (.iload_n 3, 1) := by decide +kernel
theorem dX8_hangingNow_32 : decode cX8_hangingNow 32 = .ok (.if_icmp .ge 8, 3) := by decide +kernel
theorem dX8_hangingNow_35 : decode cX8_hangingNow 35 = .ok (.iload 4, 2) := by decide +kernel
theorem dX8_hangingNow_37 : decode cX8_hangingNow 37 = .ok (.goto 4, 3) := by decide +kernel
theorem dX8_hangingNow_40 : decode cX8_hangingNow 40 = .ok (.iload_n 2, 1) := by decide +kernel
theorem dX8_hangingNow_41 : decode cX8_hangingNow 41 = .ok (.istore_n 2, 1) := by decide +kernel
theorem dX8_hangingNow_42 : decode cX8_hangingNow 42 = .ok (.iload 5, 2) := by decide +kernel
theorem dX8_hangingNow_44 : decode cX8_hangingNow 44 = .ok (.iload_n 3, 1) := by decide +kernel
theorem dX8_hangingNow_45 : decode cX8_hangingNow 45 = .ok (.if_icmp .ge 8, 3) := by decide +kernel
theorem dX8_hangingNow_48 : decode cX8_hangingNow 48 = .ok (.iload 5, 2) := by decide +kernel
theorem dX8_hangingNow_50 : decode cX8_hangingNow 50 = .ok (.goto 4, 3) := by decide +kernel
theorem dX8_hangingNow_53 : decode cX8_hangingNow 53 = .ok (.iload_n 3, 1) := by decide +kernel
theorem dX8_hangingNow_54 : decode cX8_hangingNow 54 = .ok (.istore_n 3, 1) := by decide +kernel
theorem dX8_hangingNow_55 : decode cX8_hangingNow 55 = .ok (.iinc 4 1, 3) := by decide +kernel
theorem dX8_hangingNow_58 : decode cX8_hangingNow 58 = .ok (.goto (-50), 3) := by decide +kernel
theorem dX8_hangingNow_61 : decode cX8_hangingNow 61 = .ok (.aload_n 0, 1) := by decide +kernel
theorem dX8_hangingNow_62 : decode cX8_hangingNow 62 = .ok (.iload_n 2, 1) := by decide +kernel
theorem dX8_hangingNow_63 : decode cX8_hangingNow 63 = .ok (.invokevirtual 192, 3) := by decide +kernel
theorem dX8_hangingNow_66 : decode cX8_hangingNow 66 = .ok (.iload_n 1, 1) := by decide +kernel
theorem dX8_hangingNow_67 : decode cX8_hangingNow 67 = .ok (.iconst 2, 1) := by decide +kernel
theorem dX8_hangingNow_68 : decode cX8_hangingNow 68 = .ok (.if_icmp .ge 16, 3) := by decide +kernel
theorem dX8_hangingNow_71 : decode cX8_hangingNow 71 = .ok (.iload_n 1, 1) := by decide +kernel
theorem dX8_hangingNow_72 : decode cX8_hangingNow 72 = .ok (.ifCond .ne 7, 3) := by decide +kernel
theorem dX8_hangingNow_75 : decode cX8_hangingNow 75 = .ok (.iload_n 3, 1) := by decide +kernel
theorem dX8_hangingNow_76 : decode cX8_hangingNow 76 = .ok (.goto 7, 3) := by decide +kernel
theorem dX8_hangingNow_79 : decode cX8_hangingNow 79 = .ok (.aload_n 0, 1) := by decide +kernel
theorem dX8_hangingNow_80 : decode cX8_hangingNow 80 = .ok (.invokevirtual 198, 3) := by decide +kernel
theorem dX8_hangingNow_83 : decode cX8_hangingNow 83 = .ok (.ireturn, 1) := by decide +kernel
theorem dX8_hangingNow_84 : decode cX8_hangingNow 84 = .ok (.iload_n 1, 1) := by decide +kernel
theorem dX8_hangingNow_85 : decode cX8_hangingNow 85 = .ok (.bipush 10, 2) := by decide +kernel
theorem dX8_hangingNow_87 : decode cX8_hangingNow 87 = .ok (.isub, 1) := by decide +kernel
theorem dX8_hangingNow_88 : decode cX8_hangingNow 88 = .ok (.aload_n 0, 1) := by decide +kernel
theorem dX8_hangingNow_89 : decode cX8_hangingNow 89 = .ok (.getfield 109, 3) := by decide +kernel
theorem dX8_hangingNow_92 : decode cX8_hangingNow 92 = .ok (.if_icmp .ge 18, 3) := by decide +kernel
theorem dX8_hangingNow_95 : decode cX8_hangingNow 95 = .ok (.aload_n 0, 1) := by decide +kernel
theorem dX8_hangingNow_96 : decode cX8_hangingNow 96 = .ok (.getfield 19, 3) := by decide +kernel
theorem dX8_hangingNow_99 : decode cX8_hangingNow 99 = .ok (.bipush 6, 2) := by decide +kernel
theorem dX8_hangingNow_101 : decode cX8_hangingNow 101 = .ok (.iload_n 1, 1) := by decide +kernel
theorem dX8_hangingNow_102 : decode cX8_hangingNow 102 = .ok (.iadd, 1) := by decide +kernel
theorem dX8_hangingNow_103 : decode cX8_hangingNow 103 = .ok (.bipush 10, 2) := by decide +kernel
theorem dX8_hangingNow_105 : decode cX8_hangingNow 105 = .ok (.isub, 1) := by decide +kernel
theorem dX8_hangingNow_106 : decode cX8_hangingNow 106 = .ok (.iaload, 1) := by decide +kernel
theorem dX8_hangingNow_107 : decode cX8_hangingNow 107 = .ok (.goto 4, 3) := by decide +kernel
theorem dX8_hangingNow_110 : decode cX8_hangingNow 110 = .ok (.iconst (-1), 1) := by decide +kernel
theorem dX8_hangingNow_111 : decode cX8_hangingNow 111 = .ok (.ireturn, 1) := by decide +kernel
set_option maxRecDepth 20000 in
theorem ggX8_hanging_X8_within : GoodIn wsX8_hanging wsX8_within := goodIn_r _ [5] (by decide +kernel) (by decide +kernel)
set_option maxRecDepth 20000 in
theorem gX8_hanging_X8_within : GoodIn wsX8_hanging (va_wsS RX8 77 yX8_within wsX8_within) := goodIn_app (goodIn_of _ (by decide +kernel)) ggX8_hanging_X8_within
set_option maxRecDepth 20000 in
theorem ggX8_hanging_X8_hangingNow : GoodIn wsX8_hanging wsX8_hangingNow := goodIn_r _ [9, 10, 1, 11, 12, 13, 14, 4, 15, 16, 17, 18, 19, 20, 21, 22, 23, 24, 25, 26, 27, 28, 29, 30, 31, 32, 33, 34, 35, 36, 37, 38, 39, 40, 41, 42, 43, 44, 45, 46, 47, 48, 49, 50, 51, 52, 53, 54, 55, 56, 57, 58, 59, 60, 61, 62, 63, 64, 65, 66, 67, 68, 69, 70, 71, 72, 73, 74, 75, 76, 77, 78, 79, 80, 81, 82, 83, 84, 85, 86, 87, 88, 89, 90, 91, 92, 93, 94, 95, 96, 97, 98] (by decide +kernel) (by decide +kernel)
set_option maxRecDepth 20000 in
theorem gX8_hanging_X8_hangingNow : GoodIn wsX8_hanging (wsV RX8 201 RX8 yX8_hangingNow wsX8_hangingNow) := goodIn_app (goodIn_of _ (by decide +kernel)) ggX8_hanging_X8_hangingNow
theorem dX8_hanging_0 : decode cX8_hanging 0 = .ok (.iload_n 1, 1) := by decide +kernel
theorem dX8_hanging_1 : decode cX8_hanging 1 = .ok (.iconst 0, 1) := by decide +kernel
theorem dX8_hanging_2 : decode cX8_hanging 2 = .ok (.iconst 1, 1) := by decide +kernel
theorem dX8_hanging_3 : decode cX8_hanging 3 = .ok (.invokestatic 77, 3) := by decide +kernel
theorem dX8_hanging_6 : decode cX8_hanging 6 = .ok (.ifCond .ne 17, 3) := by decide +kernel
theorem dX8_hanging_9 : decode cX8_hanging 9 = .ok (.iload_n 1, 1) := by decide +kernel
theorem dX8_hanging_10 : decode cX8_hanging 10 = .ok (.bipush 10, 2) := by decide +kernel
theorem dX8_hanging_12 : decode cX8_hanging 12 = .ok (.bipush 15, 2) := by decide +kernel
theorem dX8_hanging_14 : decode cX8_hanging 14 = .ok (.invokestatic 77, 3) := by decide +kernel
theorem dX8_hanging_17 : decode cX8_hanging 17 = .ok (.ifCond .ne 6, 3) := by decide +kernel
theorem dX8_hanging_20 : decode cX8_hanging 20 = .ok (.bipush (-102), 2) := by decide +kernel
theorem dX8_hanging_22 : decode cX8_hanging 22 = .ok (.ireturn, 1) := by decide +kernel
theorem dX8_hanging_23 : decode cX8_hanging 23 = .ok (.aload_n 0, 1) := by decide +kernel
theorem dX8_hanging_24 : decode cX8_hanging 24 = .ok (.getfield 109, 3) := by decide +kernel
theorem dX8_hanging_27 : decode cX8_hanging 27 = .ok (.ifCond .ne 8, 3) := by decide +kernel
theorem dX8_hanging_30 : decode cX8_hanging 30 = .ok (.bipush (-103), 2) := by decide +kernel
theorem dX8_hanging_32 : decode cX8_hanging 32 = .ok (.goto 8, 3) := by decide +kernel
theorem dX8_hanging_35 : decode cX8_hanging 35 = .ok (.aload_n 0, 1) := by decide +kernel
theorem dX8_hanging_36 : decode cX8_hanging 36 = .ok (.iload_n 1, 1) := by decide +kernel
theorem dX8_hanging_37 : decode cX8_hanging 37 = .ok (.invokevirtual 201, 3) := by decide +kernel
theorem dX8_hanging_40 : decode cX8_hanging 40 = .ok (.ireturn, 1) := by decide +kernel
set_option maxRecDepth 20000 in
theorem ggX8_found_X8_isHook : GoodIn wsX8_found wsX8_isHook := goodIn_r _ [8, 9, 10, 11, 7, 12, 13, 14, 15, 16, 17, 18, 19, 20, 21, 22, 23, 24, 25, 26, 27, 28, 29, 30, 31, 32, 33, 34, 35, 36, 37, 38, 39, 40, 41, 42, 43, 44, 45, 46, 47, 48, 49, 50, 51, 52, 53, 54] (by decide +kernel) (by decide +kernel)
set_option maxRecDepth 20000 in
theorem gX8_found_X8_isHook : GoodIn wsX8_found (wsV RX8 130 RX8 yX8_isHook wsX8_isHook) := goodIn_app (goodIn_of _ (by decide +kernel)) ggX8_found_X8_isHook
theorem dX8_found_0 : decode cX8_found 0 = .ok (.aload_n 0, 1) := by decide +kernel
theorem dX8_found_1 : decode cX8_found 1 = .ok (.iload_n 1, 1) := by decide +kernel
theorem dX8_found_2 : decode cX8_found 2 = .ok (.invokevirtual 130, 3) := by decide +kernel
theorem dX8_found_5 : decode cX8_found 5 = .ok (.ifCond .eq 16, 3) := by decide +kernel
theorem dX8_found_8 : decode cX8_found 8 = .ok (.aload_n 0, 1) := by decide +kernel
theorem dX8_found_9 : decode cX8_found 9 = .ok (.iload_n 2, 1) := by decide +kernel
theorem dX8_found_10 : decode cX8_found 10 = .ok (.invokevirtual 130, 3) := by decide +kernel
theorem dX8_found_13 : decode cX8_found 13 = .ok (.ifCond .eq 8, 3) := by decide +kernel
theorem dX8_found_16 : decode cX8_found 16 = .ok (.iload_n 1, 1) := by decide +kernel
theorem dX8_found_17 : decode cX8_found 17 = .ok (.iload_n 2, 1) := by decide +kernel
theorem dX8_found_18 : decode cX8_found 18 = .ok (.if_icmp .ne 6, 3) := by decide +kernel
theorem dX8_found_21 : decode cX8_found 21 = .ok (.bipush (-101), 2) := by decide +kernel
theorem dX8_found_23 : decode cX8_found 23 = .ok (.ireturn, 1) := by decide +kernel
theorem dX8_found_24 : decode cX8_found 24 = .ok (.aload_n 0, 1) := by decide +kernel
theorem dX8_found_25 : decode cX8_found 25 = .ok (.getfield 127, 3) := by decide +kernel
theorem dX8_found_28 : decode cX8_found 28 = .ok (.bipush 8, 2) := by decide +kernel
theorem dX8_found_30 : decode cX8_found 30 = .ok (.if_icmp .ne 6, 3) := by decide +kernel
theorem dX8_found_33 : decode cX8_found 33 = .ok (.bipush (-104), 2) := by decide +kernel
theorem dX8_found_35 : decode cX8_found 35 = .ok (.ireturn, 1) := by decide +kernel
theorem dX8_found_36 : decode cX8_found 36 = .ok (.aload_n 0, 1) := by decide +kernel
theorem dX8_found_37 : decode cX8_found 37 = .ok (.getfield 40, 3) := by decide +kernel
theorem dX8_found_40 : decode cX8_found 40 = .ok (.aload_n 0, 1) := by decide +kernel
theorem dX8_found_41 : decode cX8_found 41 = .ok (.getfield 127, 3) := by decide +kernel
theorem dX8_found_44 : decode cX8_found 44 = .ok (.iload_n 1, 1) := by decide +kernel
theorem dX8_found_45 : decode cX8_found 45 = .ok (.iastore, 1) := by decide +kernel
theorem dX8_found_46 : decode cX8_found 46 = .ok (.aload_n 0, 1) := by decide +kernel
theorem dX8_found_47 : decode cX8_found 47 = .ok (.getfield 43, 3) := by decide +kernel
theorem dX8_found_50 : decode cX8_found 50 = .ok (.aload_n 0, 1) := by decide +kernel
theorem dX8_found_51 : decode cX8_found 51 = .ok (.getfield 127, 3) := by decide +kernel
theorem dX8_found_54 : decode cX8_found 54 = .ok (.iload_n 2, 1) := by decide +kernel
theorem dX8_found_55 : decode cX8_found 55 = .ok (.iastore, 1) := by decide +kernel
theorem dX8_found_56 : decode cX8_found 56 = .ok (.aload_n 0, 1) := by decide +kernel
theorem dX8_found_57 : decode cX8_found 57 = .ok (.dup, 1) := by decide +kernel
theorem dX8_found_58 : decode cX8_found 58 = .ok (.getfield 127, 3) := by decide +kernel
theorem dX8_found_61 : decode cX8_found 61 = .ok (.iconst 1, 1) := by decide +kernel
theorem dX8_found_62 : decode cX8_found 62 = .ok (.iadd, 1) := by decide +kernel
theorem dX8_found_63 : decode cX8_found 63 = .ok (.putfield 127, 3) := by decide +kernel
theorem dX8_found_66 : decode cX8_found 66 = .ok (.aload_n 0, 1) := by decide +kernel
theorem dX8_found_67 : decode cX8_found 67 = .ok (.getfield 127, 3) := by decide +kernel
theorem dX8_found_70 : decode cX8_found 70 = .ok (.ireturn, 1) := by decide +kernel
theorem dX8_forget_0 : decode cX8_forget 0 = .ok (.aload_n 0, 1) := by decide +kernel
theorem dX8_forget_1 : decode cX8_forget 1 = .ok (.getfield 127, 3) := by decide +kernel
theorem dX8_forget_4 : decode cX8_forget 4 = .ok (.istore_n 1, 1) := by decide +kernel
theorem dX8_forget_5 : decode cX8_forget 5 = .ok (.aload_n 0, 1) := by decide +kernel
theorem dX8_forget_6 : decode cX8_forget 6 = .ok (.iconst 0, 1) := by decide +kernel
theorem dX8_forget_7 : decode cX8_forget 7 = .ok (.putfield 127, 3) := by decide +kernel
theorem dX8_forget_10 : decode cX8_forget 10 = .ok (.iload_n 1, 1) := by decide +kernel
theorem dX8_forget_11 : decode cX8_forget 11 = .ok (.ireturn, 1) := by decide +kernel
set_option maxRecDepth 20000 in
theorem ggX8_couldHang_X8_hookOf : GoodIn wsX8_couldHang wsX8_hookOf := goodIn_r _ [8, 9, 10, 15, 16, 17, 18, 19, 20, 21, 22, 23, 24, 25, 26, 27, 28, 29, 30, 31, 32, 33, 34, 35, 36, 37, 38, 39, 40, 41, 42, 43, 44, 45, 46, 47, 48, 49, 50, 51, 52, 53, 54, 55, 56] (by decide +kernel) (by decide +kernel)
set_option maxRecDepth 20000 in
theorem gX8_couldHang_X8_hookOf : GoodIn wsX8_couldHang (wsV RX8 188 RX8 yX8_hookOf wsX8_hookOf) := goodIn_app (goodIn_of _ (by decide +kernel)) ggX8_couldHang_X8_hookOf
set_option maxRecDepth 20000 in
theorem ggX8_couldHang_X8_nextOf : GoodIn wsX8_couldHang wsX8_nextOf := goodIn_r _ [14, 9, 15, 16, 17, 18, 19, 20, 21, 22, 23, 24, 25, 26, 27, 28, 29, 30, 31, 32, 33, 34, 35, 36, 37, 38, 39, 40, 41, 42, 43, 44, 45, 46, 47, 48, 49, 50, 51, 52, 53, 54, 55, 56] (by decide +kernel) (by decide +kernel)
set_option maxRecDepth 20000 in
theorem gX8_couldHang_X8_nextOf : GoodIn wsX8_couldHang (wsV RX8 151 RX8 yX8_nextOf wsX8_nextOf) := goodIn_app (goodIn_of _ (by decide +kernel)) ggX8_couldHang_X8_nextOf
theorem dX8_couldHang_0 : decode cX8_couldHang 0 = .ok (.iconst 1, 1) := by decide +kernel
theorem dX8_couldHang_1 : decode cX8_couldHang 1 = .ok (.istore_n 1, 1) := by decide +kernel
theorem dX8_couldHang_2 : decode cX8_couldHang 2 = .ok (.iconst 0, 1) := by decide +kernel
theorem dX8_couldHang_3 : decode cX8_couldHang 3 = .ok (.istore_n 2, 1) := by decide +kernel
theorem dX8_couldHang_4 : decode cX8_couldHang 4 = .ok (.iload_n 2, 1) := by decide +kernel
theorem dX8_couldHang_5 : decode cX8_couldHang 5 = .ok (.aload_n 0, 1) := by decide +kernel
theorem dX8_couldHang_6 : decode cX8_couldHang 6 = .ok (.getfield 127, 3) := by decide +kernel
theorem dX8_couldHang_9 : decode cX8_couldHang 9 = .ok (.if_icmp .ge 50, 3) := by decide +kernel
theorem dX8_couldHang_12 : decode cX8_couldHang 12 = .ok (.iload_n 1, 1) := by decide +kernel
theorem dX8_couldHang_13 : decode cX8_couldHang 13 = .ok (.ifCond .eq 38, 3) := by decide +kernel
theorem dX8_couldHang_16 : decode cX8_couldHang 16 = .ok (.aload_n 0, 1) := by decide +kernel
theorem dX8_couldHang_17 : decode cX8_couldHang 17 = .ok (.bipush 6, 2) := by decide +kernel
theorem dX8_couldHang_19 : decode cX8_couldHang 19 = .ok (.aload_n 0, 1) := by decide +kernel
theorem dX8_couldHang_20 : decode cX8_couldHang 20 = .ok (.getfield 43, 3) := by decide +kernel
theorem dX8_couldHang_23 : decode cX8_couldHang 23 = .ok (.iload_n 2, 1) := by decide +kernel
theorem dX8_couldHang_24 : decode cX8_couldHang 24 = .ok (.iaload, 1) := by decide +kernel
theorem dX8_couldHang_25 : decode cX8_couldHang 25 = .ok (.invokevirtual 188, 3) := by decide +kernel
theorem dX8_couldHang_28 : decode cX8_couldHang 28 = .ok (.aload_n 0, 1) := by decide +kernel
theorem dX8_couldHang_29 : decode cX8_couldHang 29 = .ok (.aload_n 0, 1) := by decide +kernel
theorem dX8_couldHang_30 : decode cX8_couldHang 30 = .ok (.bipush 6, 2) := by decide +kernel
theorem dX8_couldHang_32 : decode cX8_couldHang 32 = .ok (.aload_n 0, 1) := by decide +kernel
theorem dX8_couldHang_33 : decode cX8_couldHang 33 = .ok (.getfield 40, 3) := by decide +kernel
theorem dX8_couldHang_36 : decode cX8_couldHang 36 = .ok (.iload_n 2, 1) := by decide +kernel
theorem dX8_couldHang_37 : decode cX8_couldHang 37 = .ok (.iaload, 1) := by decide +kernel
theorem dX8_couldHang_38 : decode cX8_couldHang 38 = .ok (.invokevirtual 188, 3) := by decide +kernel
theorem dX8_couldHang_41 : decode cX8_couldHang 41 = .ok (.invokevirtual 151, 3) := by decide +kernel
theorem dX8_couldHang_44 : decode cX8_couldHang 44 = .ok (.if_icmp .ne 7, 3) := by decide +kernel
theorem dX8_couldHang_47 : decode cX8_couldHang 47 = .ok (.iconst 1, 1) := by decide +kernel
theorem dX8_couldHang_48 : decode cX8_couldHang 48 = .ok (.goto 4, 3) := by decide +kernel
theorem dX8_couldHang_51 : decode cX8_couldHang 51 = .ok (.iconst 0, 1) := by decide +kernel
theorem dX8_couldHang_52 : decode cX8_couldHang 52 = .ok (.istore_n 1, 1) := by decide +kernel
theorem dX8_couldHang_53 : decode cX8_couldHang 53 = .ok (.iinc 2 1, 3) := by decide +kernel
end
section
theorem dX8_couldHang_56 : decode cX8_couldHang 56 = .ok (.goto (-52), 3) := by decide +kernel
theorem dX8_couldHang_59 : decode cX8_couldHang 59 = .ok (.iload_n 1, 1) := by decide +kernel
theorem dX8_couldHang_60 : decode cX8_couldHang 60 = .ok (.ireturn, 1) := by decide +kernel
set_option maxRecDepth 20000 in
theorem ggX8_hungNow_X8_ways : GoodIn wsX8_hungNow wsX8_ways := goodIn_r _ [5, 6, 27, 28, 29, 30, 31, 32, 33, 34, 35, 36, 37, 38, 39, 40, 41, 42, 43, 44, 45, 46, 47, 48, 49, 50, 51, 52, 53, 54, 55, 56, 57, 58, 59, 60, 61, 62, 63, 64, 65, 66, 67, 68] (by decide +kernel) (by decide +kernel)
set_option maxRecDepth 20000 in
theorem gX8_hungNow_X8_ways : GoodIn wsX8_hungNow (wsV RX8 181 RX8 yX8_ways wsX8_ways) := goodIn_app (goodIn_of _ (by decide +kernel)) ggX8_hungNow_X8_ways
set_option maxRecDepth 20000 in
theorem ggX8_hungNow_X8_hangBy : GoodIn wsX8_hungNow wsX8_hangBy := goodIn_r _ [10, 6, 11, 1, 2, 3, 4, 5, 27, 28, 29, 30, 31, 32, 33, 34, 35, 36, 37, 38, 39, 40, 41, 42, 43, 44, 45, 46, 47, 48, 49, 50, 51, 52, 53, 54, 55, 56, 57, 58, 59, 60, 61, 62, 63, 64, 65, 66, 67, 68] (by decide +kernel) (by decide +kernel)
set_option maxRecDepth 20000 in
theorem gX8_hungNow_X8_hangBy : GoodIn wsX8_hungNow (wsV RX8 192 RX8 yX8_hangBy wsX8_hangBy) := goodIn_app (goodIn_of _ (by decide +kernel)) ggX8_hungNow_X8_hangBy
set_option maxRecDepth 20000 in
theorem ggX8_hungNow_X8_couldHang : GoodIn wsX8_hungNow wsX8_couldHang := goodIn_r _ [15, 16, 17, 18, 19, 20, 21, 4, 22, 6, 11, 23, 24, 25, 26, 27, 28, 29, 30, 31, 32, 33, 34, 35, 36, 37, 38, 39, 40, 41, 42, 43, 44, 45, 46, 47, 48, 49, 50, 51, 52, 53, 54, 55, 56, 57, 58, 59, 60, 61, 62, 63, 64, 65, 66, 67, 68] (by decide +kernel) (by decide +kernel)
set_option maxRecDepth 20000 in
theorem gX8_hungNow_X8_couldHang : GoodIn wsX8_hungNow (wsV RX8 204 RX8 yX8_couldHang wsX8_couldHang) := goodIn_app (goodIn_of _ (by decide +kernel)) ggX8_hungNow_X8_couldHang
theorem dX8_hungNow_0 : decode cX8_hungNow 0 = .ok (.iconst 0, 1) := by decide +kernel
theorem dX8_hungNow_1 : decode cX8_hungNow 1 = .ok (.istore_n 1, 1) := by decide +kernel
theorem dX8_hungNow_2 : decode cX8_hungNow 2 = .ok (.iconst 0, 1) := by decide +kernel
theorem dX8_hungNow_3 : decode cX8_hungNow 3 = .ok (.istore_n 2, 1) := by decide +kernel
theorem dX8_hungNow_4 : decode cX8_hungNow 4 = .ok (.iload_n 2, 1) := by decide +kernel
theorem dX8_hungNow_5 : decode cX8_hungNow 5 = .ok (.aload_n 0, 1) := by decide +kernel
theorem dX8_hungNow_6 : decode cX8_hungNow 6 = .ok (.invokevirtual 181, 3) := by decide +kernel
theorem dX8_hungNow_9 : decode cX8_hungNow 9 = .ok (.if_icmp .ge 29, 3) := by decide +kernel
theorem dX8_hungNow_12 : decode cX8_hungNow 12 = .ok (.aload_n 0, 1) := by decide +kernel
theorem dX8_hungNow_13 : decode cX8_hungNow 13 = .ok (.iload_n 2, 1) := by decide +kernel
theorem dX8_hungNow_14 : decode cX8_hungNow 14 = .ok (.invokevirtual 192, 3) := by decide +kernel
theorem dX8_hungNow_17 : decode cX8_hungNow 17 = .ok (.iload_n 1, 1) := by decide +kernel
theorem dX8_hungNow_18 : decode cX8_hungNow 18 = .ok (.aload_n 0, 1) := by decide +kernel
theorem dX8_hungNow_19 : decode cX8_hungNow 19 = .ok (.invokevirtual 204, 3) := by decide +kernel
theorem dX8_hungNow_22 : decode cX8_hungNow 22 = .ok (.ifCond .eq 7, 3) := by decide +kernel
theorem dX8_hungNow_25 : decode cX8_hungNow 25 = .ok (.iconst 1, 1) := by decide +kernel
theorem dX8_hungNow_26 : decode cX8_hungNow 26 = .ok (.goto 4, 3) := by decide +kernel
theorem dX8_hungNow_29 : decode cX8_hungNow 29 = .ok (.iconst 0, 1) := by decide +kernel
theorem dX8_hungNow_30 : decode cX8_hungNow 30 = .ok (.iadd, 1) := by decide +kernel
theorem dX8_hungNow_31 : decode cX8_hungNow 31 = .ok (.istore_n 1, 1) := by decide +kernel
theorem dX8_hungNow_32 : decode cX8_hungNow 32 = .ok (.iinc 2 1, 3) := by decide +kernel
theorem dX8_hungNow_35 : decode cX8_hungNow 35 = .ok (.goto (-31), 3) := by decide +kernel
theorem dX8_hungNow_38 : decode cX8_hungNow 38 = .ok (.iload_n 1, 1) := by decide +kernel
theorem dX8_hungNow_39 : decode cX8_hungNow 39 = .ok (.ireturn, 1) := by decide +kernel
set_option maxRecDepth 20000 in
theorem ggX8_hung_X8_hungNow : GoodIn wsX8_hung wsX8_hungNow := goodIn_r _ [6, 7, 8, 9, 5, 10, 1, 11, 12, 13, 14, 15, 16, 17, 18, 19, 20, 21, 22, 23, 24, 25, 26, 27, 28, 29, 30, 31, 32, 33, 34, 35, 36, 37, 38, 39, 40, 41, 42, 43, 44, 45, 46, 47, 48, 49, 50, 51, 52, 53, 54, 55, 56, 57, 58, 59, 60, 61, 62, 63, 64, 65, 66, 67, 68, 69, 70, 71, 72] (by decide +kernel) (by decide +kernel)
set_option maxRecDepth 20000 in
theorem gX8_hung_X8_hungNow : GoodIn wsX8_hung (wsV RX8 208 RX8 yX8_hungNow wsX8_hungNow) := goodIn_app (goodIn_of _ (by decide +kernel)) ggX8_hung_X8_hungNow
theorem dX8_hung_0 : decode cX8_hung 0 = .ok (.aload_n 0, 1) := by decide +kernel
theorem dX8_hung_1 : decode cX8_hung 1 = .ok (.getfield 109, 3) := by decide +kernel
theorem dX8_hung_4 : decode cX8_hung 4 = .ok (.ifCond .ne 8, 3) := by decide +kernel
theorem dX8_hung_7 : decode cX8_hung 7 = .ok (.bipush (-103), 2) := by decide +kernel
theorem dX8_hung_9 : decode cX8_hung 9 = .ok (.goto 7, 3) := by decide +kernel
theorem dX8_hung_12 : decode cX8_hung 12 = .ok (.aload_n 0, 1) := by decide +kernel
theorem dX8_hung_13 : decode cX8_hung 13 = .ok (.invokevirtual 208, 3) := by decide +kernel
theorem dX8_hung_16 : decode cX8_hung 16 = .ok (.ireturn, 1) := by decide +kernel
set_option maxRecDepth 20000 in
theorem ggX8_whereNow_X8_ways : GoodIn wsX8_whereNow wsX8_ways := goodIn_r _ [5, 6, 27, 28, 29, 30, 31, 32, 33, 34, 35, 36, 37, 38, 39, 40, 41, 42, 43, 44, 45, 46, 47, 48, 49, 50, 51, 52, 53, 54, 55, 56, 57, 58, 59, 60, 61, 62, 63, 64, 65, 66, 67, 68] (by decide +kernel) (by decide +kernel)
set_option maxRecDepth 20000 in
theorem gX8_whereNow_X8_ways : GoodIn wsX8_whereNow (wsV RX8 181 RX8 yX8_ways wsX8_ways) := goodIn_app (goodIn_of _ (by decide +kernel)) ggX8_whereNow_X8_ways
set_option maxRecDepth 20000 in
theorem ggX8_whereNow_X8_hangBy : GoodIn wsX8_whereNow wsX8_hangBy := goodIn_r _ [10, 6, 11, 1, 2, 3, 4, 5, 27, 28, 29, 30, 31, 32, 33, 34, 35, 36, 37, 38, 39, 40, 41, 42, 43, 44, 45, 46, 47, 48, 49, 50, 51, 52, 53, 54, 55, 56, 57, 58, 59, 60, 61, 62, 63, 64, 65, 66, 67, 68] (by decide +kernel) (by decide +kernel)
set_option maxRecDepth 20000 in
theorem gX8_whereNow_X8_hangBy : GoodIn wsX8_whereNow (wsV RX8 192 RX8 yX8_hangBy wsX8_hangBy) := goodIn_app (goodIn_of _ (by decide +kernel)) ggX8_whereNow_X8_hangBy
set_option maxRecDepth 20000 in
theorem ggX8_whereNow_X8_couldHang : GoodIn wsX8_whereNow wsX8_couldHang := goodIn_r _ [15, 16, 17, 18, 19, 20, 21, 4, 22, 6, 11, 23, 24, 25, 26, 27, 28, 29, 30, 31, 32, 33, 34, 35, 36, 37, 38, 39, 40, 41, 42, 43, 44, 45, 46, 47, 48, 49, 50, 51, 52, 53, 54, 55, 56, 57, 58, 59, 60, 61, 62, 63, 64, 65, 66, 67, 68] (by decide +kernel) (by decide +kernel)
set_option maxRecDepth 20000 in
theorem gX8_whereNow_X8_couldHang : GoodIn wsX8_whereNow (wsV RX8 204 RX8 yX8_couldHang wsX8_couldHang) := goodIn_app (goodIn_of _ (by decide +kernel)) ggX8_whereNow_X8_couldHang
set_option maxRecDepth 20000 in
theorem ggX8_whereNow_X8_hookOf : GoodIn wsX8_whereNow wsX8_hookOf := goodIn_r _ [22, 6, 11, 27, 28, 29, 30, 31, 32, 33, 34, 35, 36, 37, 38, 39, 40, 41, 42, 43, 44, 45, 46, 47, 48, 49, 50, 51, 52, 53, 54, 55, 56, 57, 58, 59, 60, 61, 62, 63, 64, 65, 66, 67, 68] (by decide +kernel) (by decide +kernel)
set_option maxRecDepth 20000 in
theorem gX8_whereNow_X8_hookOf : GoodIn wsX8_whereNow (wsV RX8 188 RX8 yX8_hookOf wsX8_hookOf) := goodIn_app (goodIn_of _ (by decide +kernel)) ggX8_whereNow_X8_hookOf
theorem dX8_whereNow_0 : decode cX8_whereNow 0 = .ok (.iconst 0, 1) := by decide +kernel
theorem dX8_whereNow_1 : decode cX8_whereNow 1 = .ok (.istore_n 2, 1) := by decide +kernel
theorem dX8_whereNow_2 : decode cX8_whereNow 2 = .ok (.iconst 0, 1) := by decide +kernel
theorem dX8_whereNow_3 : decode cX8_whereNow 3 = .ok (.istore_n 3, 1) := by decide +kernel
theorem dX8_whereNow_4 : decode cX8_whereNow 4 = .ok (.iload_n 3, 1) := by decide +kernel
theorem dX8_whereNow_5 : decode cX8_whereNow 5 = .ok (.aload_n 0, 1) := by decide +kernel
theorem dX8_whereNow_6 : decode cX8_whereNow 6 = .ok (.invokevirtual 181, 3) := by decide +kernel
theorem dX8_whereNow_9 : decode cX8_whereNow 9 = .ok (.if_icmp .ge 37, 3) := by decide +kernel
theorem dX8_whereNow_12 : decode cX8_whereNow 12 = .ok (.aload_n 0, 1) := by decide +kernel
theorem dX8_whereNow_13 : decode cX8_whereNow 13 = .ok (.iload_n 3, 1) := by decide +kernel
theorem dX8_whereNow_14 : decode cX8_whereNow 14 = .ok (.invokevirtual 192, 3) := by decide +kernel
theorem dX8_whereNow_17 : decode cX8_whereNow 17 = .ok (.iload_n 2, 1) := by decide +kernel
theorem dX8_whereNow_18 : decode cX8_whereNow 18 = .ok (.aload_n 0, 1) := by decide +kernel
theorem dX8_whereNow_19 : decode cX8_whereNow 19 = .ok (.invokevirtual 204, 3) := by decide +kernel
theorem dX8_whereNow_22 : decode cX8_whereNow 22 = .ok (.ifCond .eq 15, 3) := by decide +kernel
theorem dX8_whereNow_25 : decode cX8_whereNow 25 = .ok (.iconst 1, 1) := by decide +kernel
theorem dX8_whereNow_26 : decode cX8_whereNow 26 = .ok (.aload_n 0, 1) := by decide +kernel
theorem dX8_whereNow_27 : decode cX8_whereNow 27 = .ok (.bipush 6, 2) := by decide +kernel
theorem dX8_whereNow_29 : decode cX8_whereNow 29 = .ok (.iload_n 1, 1) := by decide +kernel
theorem dX8_whereNow_30 : decode cX8_whereNow 30 = .ok (.invokevirtual 188, 3) := by decide +kernel
theorem dX8_whereNow_33 : decode cX8_whereNow 33 = .ok (.ishl, 1) := by decide +kernel
theorem dX8_whereNow_34 : decode cX8_whereNow 34 = .ok (.goto 4, 3) := by decide +kernel
theorem dX8_whereNow_37 : decode cX8_whereNow 37 = .ok (.iconst 0, 1) := by decide +kernel
theorem dX8_whereNow_38 : decode cX8_whereNow 38 = .ok (.ior, 1) := by decide +kernel
theorem dX8_whereNow_39 : decode cX8_whereNow 39 = .ok (.istore_n 2, 1) := by decide +kernel
theorem dX8_whereNow_40 : decode cX8_whereNow 40 = .ok (.iinc 3 1, 3) := by decide +kernel
theorem dX8_whereNow_43 : decode cX8_whereNow 43 = .ok (.goto (-39), 3) := by decide +kernel
theorem dX8_whereNow_46 : decode cX8_whereNow 46 = .ok (.iload_n 2, 1) := by decide +kernel
theorem dX8_whereNow_47 : decode cX8_whereNow 47 = .ok (.ireturn, 1) := by decide +kernel
set_option maxRecDepth 20000 in
theorem ggX8_where_X8_isHook : GoodIn wsX8_where wsX8_isHook := goodIn_r _ [5, 6, 7, 8, 4, 9, 38, 39, 40, 41, 42, 43, 44, 45, 46, 47, 48, 49, 50, 51, 52, 53, 54, 55, 56, 57, 58, 59, 60, 61, 62, 63, 64, 65, 66, 67, 68, 69, 70, 71, 72, 73, 74, 75, 76, 77, 78, 79] (by decide +kernel) (by decide +kernel)
set_option maxRecDepth 20000 in
theorem gX8_where_X8_isHook : GoodIn wsX8_where (wsV RX8 130 RX8 yX8_isHook wsX8_isHook) := goodIn_app (goodIn_of _ (by decide +kernel)) ggX8_where_X8_isHook
set_option maxRecDepth 20000 in
theorem ggX8_where_X8_whereNow : GoodIn wsX8_where wsX8_whereNow := goodIn_r _ [13, 14, 15, 16, 4, 17, 6, 18, 19, 20, 21, 22, 23, 24, 25, 26, 27, 28, 29, 30, 31, 32, 33, 34, 35, 36, 37, 38, 39, 40, 41, 42, 43, 44, 45, 46, 47, 48, 49, 50, 51, 52, 53, 54, 55, 56, 57, 58, 59, 60, 61, 62, 63, 64, 65, 66, 67, 68, 69, 70, 71, 72, 73, 74, 75, 76, 77, 78, 79] (by decide +kernel) (by decide +kernel)
set_option maxRecDepth 20000 in
theorem gX8_where_X8_whereNow : GoodIn wsX8_where (wsV RX8 211 RX8 yX8_whereNow wsX8_whereNow) := goodIn_app (goodIn_of _ (by decide +kernel)) ggX8_where_X8_whereNow
theorem dX8_where_0 : decode cX8_where 0 = .ok (.aload_n 0, 1) := by decide +kernel
theorem dX8_where_1 : decode cX8_where 1 = .ok (.iload_n 1, 1) := by decide +kernel
theorem dX8_where_2 : decode cX8_where 2 = .ok (.invokevirtual 130, 3) := by decide +kernel
theorem dX8_where_5 : decode cX8_where 5 = .ok (.ifCond .eq 11, 3) := by decide +kernel
theorem dX8_where_8 : decode cX8_where 8 = .ok (.aload_n 0, 1) := by decide +kernel
theorem dX8_where_9 : decode cX8_where 9 = .ok (.iload_n 1, 1) := by decide +kernel
theorem dX8_where_10 : decode cX8_where 10 = .ok (.invokevirtual 211, 3) := by decide +kernel
theorem dX8_where_13 : decode cX8_where 13 = .ok (.goto 5, 3) := by decide +kernel
theorem dX8_where_16 : decode cX8_where 16 = .ok (.bipush (-101), 2) := by decide +kernel
theorem dX8_where_18 : decode cX8_where 18 = .ok (.ireturn, 1) := by decide +kernel
theorem dX8_draw_0 : decode cX8_draw 0 = .ok (.aload_n 0, 1) := by decide +kernel
theorem dX8_draw_1 : decode cX8_draw 1 = .ok (.ldc2_w 214, 3) := by decide +kernel
theorem dX8_draw_4 : decode cX8_draw 4 = .ok (.aload_n 0, 1) := by decide +kernel
theorem dX8_draw_5 : decode cX8_draw 5 = .ok (.getfield 216, 3) := by decide +kernel
theorem dX8_draw_8 : decode cX8_draw 8 = .ok (.lmul, 1) := by decide +kernel
theorem dX8_draw_9 : decode cX8_draw 9 = .ok (.ldc2_w 220, 3) := by decide +kernel
theorem dX8_draw_12 : decode cX8_draw 12 = .ok (.ladd, 1) := by decide +kernel
theorem dX8_draw_13 : decode cX8_draw 13 = .ok (.ldc2_w 222, 3) := by decide +kernel
theorem dX8_draw_16 : decode cX8_draw 16 = .ok (.land, 1) := by decide +kernel
theorem dX8_draw_17 : decode cX8_draw 17 = .ok (.putfield 216, 3) := by decide +kernel
theorem dX8_draw_20 : decode cX8_draw 20 = .ok (.aload_n 0, 1) := by decide +kernel
theorem dX8_draw_21 : decode cX8_draw 21 = .ok (.getfield 216, 3) := by decide +kernel
theorem dX8_draw_24 : decode cX8_draw 24 = .ok (.ldc2_w 224, 3) := by decide +kernel
theorem dX8_draw_27 : decode cX8_draw 27 = .ok (.ldiv, 1) := by decide +kernel
theorem dX8_draw_28 : decode cX8_draw 28 = .ok (.iload_n 1, 1) := by decide +kernel
theorem dX8_draw_29 : decode cX8_draw 29 = .ok (.i2l, 1) := by decide +kernel
theorem dX8_draw_30 : decode cX8_draw 30 = .ok (.lrem, 1) := by decide +kernel
theorem dX8_draw_31 : decode cX8_draw 31 = .ok (.l2i, 1) := by decide +kernel
theorem dX8_draw_32 : decode cX8_draw 32 = .ok (.ireturn, 1) := by decide +kernel
theorem dX8_wouldBeFull_0 : decode cX8_wouldBeFull 0 = .ok (.aload_n 0, 1) := by decide +kernel
theorem dX8_wouldBeFull_1 : decode cX8_wouldBeFull 1 = .ok (.getfield 22, 3) := by decide +kernel
theorem dX8_wouldBeFull_4 : decode cX8_wouldBeFull 4 = .ok (.bipush 6, 2) := by decide +kernel
theorem dX8_wouldBeFull_6 : decode cX8_wouldBeFull 6 = .ok (.aload_n 0, 1) := by decide +kernel
theorem dX8_wouldBeFull_7 : decode cX8_wouldBeFull 7 = .ok (.getfield 19, 3) := by decide +kernel
theorem dX8_wouldBeFull_10 : decode cX8_wouldBeFull 10 = .ok (.iload_n 1, 1) := by decide +kernel
theorem dX8_wouldBeFull_11 : decode cX8_wouldBeFull 11 = .ok (.iaload, 1) := by decide +kernel
theorem dX8_wouldBeFull_12 : decode cX8_wouldBeFull 12 = .ok (.iadd, 1) := by decide +kernel
theorem dX8_wouldBeFull_13 : decode cX8_wouldBeFull 13 = .ok (.iaload, 1) := by decide +kernel
theorem dX8_wouldBeFull_14 : decode cX8_wouldBeFull 14 = .ok (.aload_n 0, 1) := by decide +kernel
theorem dX8_wouldBeFull_15 : decode cX8_wouldBeFull 15 = .ok (.getfield 13, 3) := by decide +kernel
theorem dX8_wouldBeFull_18 : decode cX8_wouldBeFull 18 = .ok (.iload_n 1, 1) := by decide +kernel
theorem dX8_wouldBeFull_19 : decode cX8_wouldBeFull 19 = .ok (.iaload, 1) := by decide +kernel
theorem dX8_wouldBeFull_20 : decode cX8_wouldBeFull 20 = .ok (.if_icmp .lt 7, 3) := by decide +kernel
theorem dX8_wouldBeFull_23 : decode cX8_wouldBeFull 23 = .ok (.iconst 1, 1) := by decide +kernel
theorem dX8_wouldBeFull_24 : decode cX8_wouldBeFull 24 = .ok (.goto 4, 3) := by decide +kernel
theorem dX8_wouldBeFull_27 : decode cX8_wouldBeFull 27 = .ok (.iconst 0, 1) := by decide +kernel
theorem dX8_wouldBeFull_28 : decode cX8_wouldBeFull 28 = .ok (.ireturn, 1) := by decide +kernel
set_option maxRecDepth 20000 in
theorem ggX8_goParcel_X8_draw : GoodIn wsX8_goParcel wsX8_draw := goodIn_r _ [10, 11, 12, 13, 14, 15, 41, 42, 43, 44, 45, 46, 47, 48, 49, 50, 51, 52, 53, 54, 55, 56, 57, 58, 59, 60, 61, 62, 63, 64, 65, 66, 67, 68, 69, 70, 71, 72, 73, 74, 75, 76, 77, 78, 79, 80, 81, 82] (by decide +kernel) (by decide +kernel)
set_option maxRecDepth 20000 in
theorem gX8_goParcel_X8_draw : GoodIn wsX8_goParcel (wsV RX8 226 RX8 yX8_draw wsX8_draw) := goodIn_app (goodIn_of _ (by decide +kernel)) ggX8_goParcel_X8_draw
set_option maxRecDepth 20000 in
theorem ggX8_goParcel_X8_hookOf : GoodIn wsX8_goParcel wsX8_hookOf := goodIn_r _ [19, 1, 5, 41, 42, 43, 44, 45, 46, 47, 48, 49, 50, 51, 52, 53, 54, 55, 56, 57, 58, 59, 60, 61, 62, 63, 64, 65, 66, 67, 68, 69, 70, 71, 72, 73, 74, 75, 76, 77, 78, 79, 80, 81, 82] (by decide +kernel) (by decide +kernel)
set_option maxRecDepth 20000 in
theorem gX8_goParcel_X8_hookOf : GoodIn wsX8_goParcel (wsV RX8 188 RX8 yX8_hookOf wsX8_hookOf) := goodIn_app (goodIn_of _ (by decide +kernel)) ggX8_goParcel_X8_hookOf
set_option maxRecDepth 20000 in
theorem ggX8_goParcel_X8_wouldBeFull : GoodIn wsX8_goParcel wsX8_wouldBeFull := goodIn_r _ [23, 2, 5, 24, 41, 42, 43, 44, 45, 46, 47, 48, 49, 50, 51, 52, 53, 54, 55, 56, 57, 58, 59, 60, 61, 62, 63, 64, 65, 66, 67, 68, 69, 70, 71, 72, 73, 74, 75, 76, 77, 78, 79, 80, 81, 82] (by decide +kernel) (by decide +kernel)
set_option maxRecDepth 20000 in
theorem gX8_goParcel_X8_wouldBeFull : GoodIn wsX8_goParcel (wsV RX8 229 RX8 yX8_wouldBeFull wsX8_wouldBeFull) := goodIn_app (goodIn_of _ (by decide +kernel)) ggX8_goParcel_X8_wouldBeFull
set_option maxRecDepth 20000 in
theorem ggX8_goParcel_X8_tenthsIn : GoodIn wsX8_goParcel wsX8_tenthsIn := goodIn_r _ [28, 29, 30, 31, 9, 32, 41, 42, 43, 44, 45, 46, 47, 48, 49, 50, 51, 52, 53, 54, 55, 56, 57, 58, 59, 60, 61, 62, 63, 64, 65, 66, 67, 68, 69, 70, 71, 72, 73, 74, 75, 76, 77, 78, 79, 80, 81, 82] (by decide +kernel) (by decide +kernel)
set_option maxRecDepth 20000 in
theorem gX8_goParcel_X8_tenthsIn : GoodIn wsX8_goParcel (wsV RX8 148 RX8 yX8_tenthsIn wsX8_tenthsIn) := goodIn_app (goodIn_of _ (by decide +kernel)) ggX8_goParcel_X8_tenthsIn
set_option maxRecDepth 20000 in
theorem ggX8_goParcel_X8_tenthsNext : GoodIn wsX8_goParcel wsX8_tenthsNext := goodIn_r _ [36, 25, 26, 27, 9, 28, 29, 30, 31, 32, 41, 42, 43, 44, 45, 46, 47, 48, 49, 50, 51, 52, 53, 54, 55, 56, 57, 58, 59, 60, 61, 62, 63, 64, 65, 66, 67, 68, 69, 70, 71, 72, 73, 74, 75, 76, 77, 78, 79, 80, 81, 82] (by decide +kernel) (by decide +kernel)
set_option maxRecDepth 20000 in
theorem gX8_goParcel_X8_tenthsNext : GoodIn wsX8_goParcel (wsV RX8 157 RX8 yX8_tenthsNext wsX8_tenthsNext) := goodIn_app (goodIn_of _ (by decide +kernel)) ggX8_goParcel_X8_tenthsNext
set_option maxRecDepth 20000 in
theorem ggX8_goParcel_X8_nextOf : GoodIn wsX8_goParcel wsX8_nextOf := goodIn_r _ [40, 1, 41, 42, 43, 44, 45, 46, 47, 48, 49, 50, 51, 52, 53, 54, 55, 56, 57, 58, 59, 60, 61, 62, 63, 64, 65, 66, 67, 68, 69, 70, 71, 72, 73, 74, 75, 76, 77, 78, 79, 80, 81, 82] (by decide +kernel) (by decide +kernel)
set_option maxRecDepth 20000 in
theorem gX8_goParcel_X8_nextOf : GoodIn wsX8_goParcel (wsV RX8 151 RX8 yX8_nextOf wsX8_nextOf) := goodIn_app (goodIn_of _ (by decide +kernel)) ggX8_goParcel_X8_nextOf
theorem dX8_goParcel_0 : decode cX8_goParcel 0 = .ok (.aload_n 0, 1) := by decide +kernel
theorem dX8_goParcel_1 : decode cX8_goParcel 1 = .ok (.aload_n 0, 1) := by decide +kernel
theorem dX8_goParcel_2 : decode cX8_goParcel 2 = .ok (.getfield 109, 3) := by decide +kernel
theorem dX8_goParcel_5 : decode cX8_goParcel 5 = .ok (.invokevirtual 226, 3) := by decide +kernel
theorem dX8_goParcel_8 : decode cX8_goParcel 8 = .ok (.istore_n 1, 1) := by decide +kernel
theorem dX8_goParcel_9 : decode cX8_goParcel 9 = .ok (.aload_n 0, 1) := by decide +kernel
theorem dX8_goParcel_10 : decode cX8_goParcel 10 = .ok (.iconst 0, 1) := by decide +kernel
theorem dX8_goParcel_11 : decode cX8_goParcel 11 = .ok (.iload_n 1, 1) := by decide +kernel
theorem dX8_goParcel_12 : decode cX8_goParcel 12 = .ok (.invokevirtual 188, 3) := by decide +kernel
theorem dX8_goParcel_15 : decode cX8_goParcel 15 = .ok (.istore_n 2, 1) := by decide +kernel
theorem dX8_goParcel_16 : decode cX8_goParcel 16 = .ok (.aload_n 0, 1) := by decide +kernel
theorem dX8_goParcel_17 : decode cX8_goParcel 17 = .ok (.getfield 22, 3) := by decide +kernel
theorem dX8_goParcel_20 : decode cX8_goParcel 20 = .ok (.bipush 6, 2) := by decide +kernel
theorem dX8_goParcel_22 : decode cX8_goParcel 22 = .ok (.iload_n 1, 1) := by decide +kernel
theorem dX8_goParcel_23 : decode cX8_goParcel 23 = .ok (.iadd, 1) := by decide +kernel
theorem dX8_goParcel_24 : decode cX8_goParcel 24 = .ok (.aload_n 0, 1) := by decide +kernel
theorem dX8_goParcel_25 : decode cX8_goParcel 25 = .ok (.iload_n 2, 1) := by decide +kernel
theorem dX8_goParcel_26 : decode cX8_goParcel 26 = .ok (.invokevirtual 229, 3) := by decide +kernel
theorem dX8_goParcel_29 : decode cX8_goParcel 29 = .ok (.ifCond .eq 7, 3) := by decide +kernel
theorem dX8_goParcel_32 : decode cX8_goParcel 32 = .ok (.iconst 0, 1) := by decide +kernel
theorem dX8_goParcel_33 : decode cX8_goParcel 33 = .ok (.goto 12, 3) := by decide +kernel
theorem dX8_goParcel_36 : decode cX8_goParcel 36 = .ok (.aload_n 0, 1) := by decide +kernel
theorem dX8_goParcel_37 : decode cX8_goParcel 37 = .ok (.getfield 22, 3) := by decide +kernel
theorem dX8_goParcel_40 : decode cX8_goParcel 40 = .ok (.bipush 6, 2) := by decide +kernel
theorem dX8_goParcel_42 : decode cX8_goParcel 42 = .ok (.iload_n 1, 1) := by decide +kernel
theorem dX8_goParcel_43 : decode cX8_goParcel 43 = .ok (.iadd, 1) := by decide +kernel
theorem dX8_goParcel_44 : decode cX8_goParcel 44 = .ok (.iaload, 1) := by decide +kernel
theorem dX8_goParcel_45 : decode cX8_goParcel 45 = .ok (.iastore, 1) := by decide +kernel
theorem dX8_goParcel_46 : decode cX8_goParcel 46 = .ok (.aload_n 0, 1) := by decide +kernel
theorem dX8_goParcel_47 : decode cX8_goParcel 47 = .ok (.bipush 10, 2) := by decide +kernel
theorem dX8_goParcel_49 : decode cX8_goParcel 49 = .ok (.invokevirtual 226, 3) := by decide +kernel
theorem dX8_goParcel_52 : decode cX8_goParcel 52 = .ok (.istore_n 3, 1) := by decide +kernel
theorem dX8_goParcel_53 : decode cX8_goParcel 53 = .ok (.aload_n 0, 1) := by decide +kernel
theorem dX8_goParcel_54 : decode cX8_goParcel 54 = .ok (.iconst 0, 1) := by decide +kernel
theorem dX8_goParcel_55 : decode cX8_goParcel 55 = .ok (.iload_n 2, 1) := by decide +kernel
theorem dX8_goParcel_56 : decode cX8_goParcel 56 = .ok (.invokevirtual 148, 3) := by decide +kernel
theorem dX8_goParcel_59 : decode cX8_goParcel 59 = .ok (.istore 4, 2) := by decide +kernel
theorem dX8_goParcel_61 : decode cX8_goParcel 61 = .ok (.iload_n 3, 1) := by decide +kernel
theorem dX8_goParcel_62 : decode cX8_goParcel 62 = .ok (.iload 4, 2) := by decide +kernel
theorem dX8_goParcel_64 : decode cX8_goParcel 64 = .ok (.if_icmp .lt 32, 3) := by decide +kernel
theorem dX8_goParcel_67 : decode cX8_goParcel 67 = .ok (.iload_n 3, 1) := by decide +kernel
theorem dX8_goParcel_68 : decode cX8_goParcel 68 = .ok (.iload 4, 2) := by decide +kernel
theorem dX8_goParcel_70 : decode cX8_goParcel 70 = .ok (.aload_n 0, 1) := by decide +kernel
theorem dX8_goParcel_71 : decode cX8_goParcel 71 = .ok (.iconst 0, 1) := by decide +kernel
theorem dX8_goParcel_72 : decode cX8_goParcel 72 = .ok (.iload_n 2, 1) := by decide +kernel
theorem dX8_goParcel_73 : decode cX8_goParcel 73 = .ok (.invokevirtual 157, 3) := by decide +kernel
theorem dX8_goParcel_76 : decode cX8_goParcel 76 = .ok (.iadd, 1) := by decide +kernel
theorem dX8_goParcel_77 : decode cX8_goParcel 77 = .ok (.if_icmp .ge 19, 3) := by decide +kernel
theorem dX8_goParcel_80 : decode cX8_goParcel 80 = .ok (.aload_n 0, 1) := by decide +kernel
theorem dX8_goParcel_81 : decode cX8_goParcel 81 = .ok (.aload_n 0, 1) := by decide +kernel
theorem dX8_goParcel_82 : decode cX8_goParcel 82 = .ok (.iload_n 2, 1) := by decide +kernel
theorem dX8_goParcel_83 : decode cX8_goParcel 83 = .ok (.invokevirtual 151, 3) := by decide +kernel
theorem dX8_goParcel_86 : decode cX8_goParcel 86 = .ok (.invokevirtual 229, 3) := by decide +kernel
theorem dX8_goParcel_89 : decode cX8_goParcel 89 = .ok (.ifCond .ne 7, 3) := by decide +kernel
theorem dX8_goParcel_92 : decode cX8_goParcel 92 = .ok (.iconst 1, 1) := by decide +kernel
theorem dX8_goParcel_93 : decode cX8_goParcel 93 = .ok (.goto 4, 3) := by decide +kernel
theorem dX8_goParcel_96 : decode cX8_goParcel 96 = .ok (.iconst 0, 1) := by decide +kernel
theorem dX8_goParcel_97 : decode cX8_goParcel 97 = .ok (.istore 5, 2) := by decide +kernel
theorem dX8_goParcel_99 : decode cX8_goParcel 99 = .ok (.aload_n 0, 1) := by decide +kernel
theorem dX8_goParcel_100 : decode cX8_goParcel 100 = .ok (.dup, 1) := by decide +kernel
theorem dX8_goParcel_101 : decode cX8_goParcel 101 = .ok (.getfield 232, 3) := by decide +kernel
theorem dX8_goParcel_104 : decode cX8_goParcel 104 = .ok (.iload 5, 2) := by decide +kernel
theorem dX8_goParcel_106 : decode cX8_goParcel 106 = .ok (.ifCond .eq 7, 3) := by decide +kernel
theorem dX8_goParcel_109 : decode cX8_goParcel 109 = .ok (.iconst 1, 1) := by decide +kernel
theorem dX8_goParcel_110 : decode cX8_goParcel 110 = .ok (.goto 4, 3) := by decide +kernel
theorem dX8_goParcel_113 : decode cX8_goParcel 113 = .ok (.iconst 0, 1) := by decide +kernel
theorem dX8_goParcel_114 : decode cX8_goParcel 114 = .ok (.iadd, 1) := by decide +kernel
theorem dX8_goParcel_115 : decode cX8_goParcel 115 = .ok (.putfield 232, 3) := by decide +kernel
theorem dX8_goParcel_118 : decode cX8_goParcel 118 = .ok (.aload_n 0, 1) := by decide +kernel
theorem dX8_goParcel_119 : decode cX8_goParcel 119 = .ok (.dup, 1) := by decide +kernel
theorem dX8_goParcel_120 : decode cX8_goParcel 120 = .ok (.getfield 235, 3) := by decide +kernel
theorem dX8_goParcel_123 : decode cX8_goParcel 123 = .ok (.iload_n 3, 1) := by decide +kernel
theorem dX8_goParcel_124 : decode cX8_goParcel 124 = .ok (.iload 4, 2) := by decide +kernel
theorem dX8_goParcel_126 : decode cX8_goParcel 126 = .ok (.if_icmp .lt 12, 3) := by decide +kernel
theorem dX8_goParcel_129 : decode cX8_goParcel 129 = .ok (.iload 5, 2) := by decide +kernel
theorem dX8_goParcel_131 : decode cX8_goParcel 131 = .ok (.ifCond .ne 7, 3) := by decide +kernel
theorem dX8_goParcel_134 : decode cX8_goParcel 134 = .ok (.iconst 1, 1) := by decide +kernel
theorem dX8_goParcel_135 : decode cX8_goParcel 135 = .ok (.goto 4, 3) := by decide +kernel
theorem dX8_goParcel_138 : decode cX8_goParcel 138 = .ok (.iconst 0, 1) := by decide +kernel
theorem dX8_goParcel_139 : decode cX8_goParcel 139 = .ok (.iadd, 1) := by decide +kernel
theorem dX8_goParcel_140 : decode cX8_goParcel 140 = .ok (.putfield 235, 3) := by decide +kernel
theorem dX8_goParcel_143 : decode cX8_goParcel 143 = .ok (.iload 5, 2) := by decide +kernel
theorem dX8_goParcel_145 : decode cX8_goParcel 145 = .ok (.ifCond .eq 16, 3) := by decide +kernel
theorem dX8_goParcel_148 : decode cX8_goParcel 148 = .ok (.aload_n 0, 1) := by decide +kernel
theorem dX8_goParcel_149 : decode cX8_goParcel 149 = .ok (.getfield 19, 3) := by decide +kernel
theorem dX8_goParcel_152 : decode cX8_goParcel 152 = .ok (.aload_n 0, 1) := by decide +kernel
theorem dX8_goParcel_153 : decode cX8_goParcel 153 = .ok (.iload_n 2, 1) := by decide +kernel
theorem dX8_goParcel_154 : decode cX8_goParcel 154 = .ok (.invokevirtual 151, 3) := by decide +kernel
theorem dX8_goParcel_157 : decode cX8_goParcel 157 = .ok (.iaload, 1) := by decide +kernel
theorem dX8_goParcel_158 : decode cX8_goParcel 158 = .ok (.goto 4, 3) := by decide +kernel
theorem dX8_goParcel_161 : decode cX8_goParcel 161 = .ok (.iload_n 1, 1) := by decide +kernel
theorem dX8_goParcel_162 : decode cX8_goParcel 162 = .ok (.istore 6, 2) := by decide +kernel
theorem dX8_goParcel_164 : decode cX8_goParcel 164 = .ok (.aload_n 0, 1) := by decide +kernel
theorem dX8_goParcel_165 : decode cX8_goParcel 165 = .ok (.getfield 22, 3) := by decide +kernel
theorem dX8_goParcel_168 : decode cX8_goParcel 168 = .ok (.bipush 6, 2) := by decide +kernel
theorem dX8_goParcel_170 : decode cX8_goParcel 170 = .ok (.iload 6, 2) := by decide +kernel
theorem dX8_goParcel_172 : decode cX8_goParcel 172 = .ok (.iadd, 1) := by decide +kernel
theorem dX8_goParcel_173 : decode cX8_goParcel 173 = .ok (.dup2, 1) := by decide +kernel
theorem dX8_goParcel_174 : decode cX8_goParcel 174 = .ok (.iaload, 1) := by decide +kernel
theorem dX8_goParcel_175 : decode cX8_goParcel 175 = .ok (.iconst 1, 1) := by decide +kernel
theorem dX8_goParcel_176 : decode cX8_goParcel 176 = .ok (.iadd, 1) := by decide +kernel
theorem dX8_goParcel_177 : decode cX8_goParcel 177 = .ok (.iastore, 1) := by decide +kernel
theorem dX8_goParcel_178 : decode cX8_goParcel 178 = .ok (.return_, 1) := by decide +kernel
set_option maxRecDepth 20000 in
theorem ggX8_shiftsNow_X8_goParcel : GoodIn wsX8_shiftsNow wsX8_goParcel := goodIn_r _ [9, 10, 1, 3, 4, 11, 12, 13, 14, 8, 15, 16, 2, 17, 18, 19, 20, 21, 22, 23, 24, 25, 26, 27, 28, 29, 30, 31, 32, 33, 34, 35, 36, 37, 38, 39, 40, 41, 42, 43, 44, 45, 46, 47, 48, 49, 50, 51, 52, 53, 54, 55, 56, 57, 58, 59, 60, 61, 62, 63, 64, 65, 66, 67, 68, 69, 70, 71, 72, 73, 74, 75, 76, 77, 78, 79, 80, 81, 82, 83, 84, 85, 86] (by decide +kernel) (by decide +kernel)
set_option maxRecDepth 20000 in
theorem gX8_shiftsNow_X8_goParcel : GoodIn wsX8_shiftsNow (wsV RX8 238 RX8 yX8_goParcel wsX8_goParcel) := goodIn_app (goodIn_of _ (by decide +kernel)) ggX8_shiftsNow_X8_goParcel
theorem dX8_shiftsNow_0 : decode cX8_shiftsNow 0 = .ok (.iconst 0, 1) := by decide +kernel
theorem dX8_shiftsNow_1 : decode cX8_shiftsNow 1 = .ok (.istore 4, 2) := by decide +kernel
theorem dX8_shiftsNow_3 : decode cX8_shiftsNow 3 = .ok (.iload 4, 2) := by decide +kernel
theorem dX8_shiftsNow_5 : decode cX8_shiftsNow 5 = .ok (.bipush 6, 2) := by decide +kernel
theorem dX8_shiftsNow_7 : decode cX8_shiftsNow 7 = .ok (.if_icmp .ge 20, 3) := by decide +kernel
theorem dX8_shiftsNow_10 : decode cX8_shiftsNow 10 = .ok (.aload_n 0, 1) := by decide +kernel
theorem dX8_shiftsNow_11 : decode cX8_shiftsNow 11 = .ok (.getfield 22, 3) := by decide +kernel
theorem dX8_shiftsNow_14 : decode cX8_shiftsNow 14 = .ok (.bipush 6, 2) := by decide +kernel
theorem dX8_shiftsNow_16 : decode cX8_shiftsNow 16 = .ok (.iload 4, 2) := by decide +kernel
theorem dX8_shiftsNow_18 : decode cX8_shiftsNow 18 = .ok (.iadd, 1) := by decide +kernel
theorem dX8_shiftsNow_19 : decode cX8_shiftsNow 19 = .ok (.iconst 0, 1) := by decide +kernel
theorem dX8_shiftsNow_20 : decode cX8_shiftsNow 20 = .ok (.iastore, 1) := by decide +kernel
theorem dX8_shiftsNow_21 : decode cX8_shiftsNow 21 = .ok (.iinc 4 1, 3) := by decide +kernel
theorem dX8_shiftsNow_24 : decode cX8_shiftsNow 24 = .ok (.goto (-21), 3) := by decide +kernel
theorem dX8_shiftsNow_27 : decode cX8_shiftsNow 27 = .ok (.aload_n 0, 1) := by decide +kernel
theorem dX8_shiftsNow_28 : decode cX8_shiftsNow 28 = .ok (.iload_n 2, 1) := by decide +kernel
theorem dX8_shiftsNow_29 : decode cX8_shiftsNow 29 = .ok (.i2l, 1) := by decide +kernel
theorem dX8_shiftsNow_30 : decode cX8_shiftsNow 30 = .ok (.putfield 216, 3) := by decide +kernel
theorem dX8_shiftsNow_33 : decode cX8_shiftsNow 33 = .ok (.aload_n 0, 1) := by decide +kernel
theorem dX8_shiftsNow_34 : decode cX8_shiftsNow 34 = .ok (.iconst 0, 1) := by decide +kernel
theorem dX8_shiftsNow_35 : decode cX8_shiftsNow 35 = .ok (.putfield 232, 3) := by decide +kernel
theorem dX8_shiftsNow_38 : decode cX8_shiftsNow 38 = .ok (.aload_n 0, 1) := by decide +kernel
theorem dX8_shiftsNow_39 : decode cX8_shiftsNow 39 = .ok (.iconst 0, 1) := by decide +kernel
theorem dX8_shiftsNow_40 : decode cX8_shiftsNow 40 = .ok (.putfield 235, 3) := by decide +kernel
theorem dX8_shiftsNow_43 : decode cX8_shiftsNow 43 = .ok (.iconst 0, 1) := by decide +kernel
theorem dX8_shiftsNow_44 : decode cX8_shiftsNow 44 = .ok (.istore 4, 2) := by decide +kernel
theorem dX8_shiftsNow_46 : decode cX8_shiftsNow 46 = .ok (.iload 4, 2) := by decide +kernel
theorem dX8_shiftsNow_48 : decode cX8_shiftsNow 48 = .ok (.iload_n 1, 1) := by decide +kernel
theorem dX8_shiftsNow_49 : decode cX8_shiftsNow 49 = .ok (.if_icmp .ge 13, 3) := by decide +kernel
theorem dX8_shiftsNow_52 : decode cX8_shiftsNow 52 = .ok (.aload_n 0, 1) := by decide +kernel
theorem dX8_shiftsNow_53 : decode cX8_shiftsNow 53 = .ok (.invokevirtual 238, 3) := by decide +kernel
theorem dX8_shiftsNow_56 : decode cX8_shiftsNow 56 = .ok (.iinc 4 1, 3) := by decide +kernel
theorem dX8_shiftsNow_59 : decode cX8_shiftsNow 59 = .ok (.goto (-13), 3) := by decide +kernel
theorem dX8_shiftsNow_62 : decode cX8_shiftsNow 62 = .ok (.iload_n 3, 1) := by decide +kernel
theorem dX8_shiftsNow_63 : decode cX8_shiftsNow 63 = .ok (.ifCond .ne 10, 3) := by decide +kernel
theorem dX8_shiftsNow_66 : decode cX8_shiftsNow 66 = .ok (.aload_n 0, 1) := by decide +kernel
theorem dX8_shiftsNow_67 : decode cX8_shiftsNow 67 = .ok (.getfield 232, 3) := by decide +kernel
theorem dX8_shiftsNow_70 : decode cX8_shiftsNow 70 = .ok (.goto 20, 3) := by decide +kernel
theorem dX8_shiftsNow_73 : decode cX8_shiftsNow 73 = .ok (.iload_n 3, 1) := by decide +kernel
theorem dX8_shiftsNow_74 : decode cX8_shiftsNow 74 = .ok (.iconst 1, 1) := by decide +kernel
theorem dX8_shiftsNow_75 : decode cX8_shiftsNow 75 = .ok (.if_icmp .ne 10, 3) := by decide +kernel
theorem dX8_shiftsNow_78 : decode cX8_shiftsNow 78 = .ok (.aload_n 0, 1) := by decide +kernel
theorem dX8_shiftsNow_79 : decode cX8_shiftsNow 79 = .ok (.getfield 235, 3) := by decide +kernel
theorem dX8_shiftsNow_82 : decode cX8_shiftsNow 82 = .ok (.goto 8, 3) := by decide +kernel
theorem dX8_shiftsNow_85 : decode cX8_shiftsNow 85 = .ok (.aload_n 0, 1) := by decide +kernel
theorem dX8_shiftsNow_86 : decode cX8_shiftsNow 86 = .ok (.getfield 216, 3) := by decide +kernel
theorem dX8_shiftsNow_89 : decode cX8_shiftsNow 89 = .ok (.l2i, 1) := by decide +kernel
theorem dX8_shiftsNow_90 : decode cX8_shiftsNow 90 = .ok (.ireturn, 1) := by decide +kernel
set_option maxRecDepth 20000 in
theorem ggX8_shifts_X8_within : GoodIn wsX8_shifts wsX8_within := goodIn_r _ [5] (by decide +kernel) (by decide +kernel)
set_option maxRecDepth 20000 in
theorem gX8_shifts_X8_within : GoodIn wsX8_shifts (va_wsS RX8 77 yX8_within wsX8_within) := goodIn_app (goodIn_of _ (by decide +kernel)) ggX8_shifts_X8_within
set_option maxRecDepth 20000 in
theorem ggX8_shifts_X8_shiftsNow : GoodIn wsX8_shifts wsX8_shiftsNow := goodIn_r _ [9, 10, 11, 12, 13, 14, 15, 16, 4, 17, 1, 18, 19, 20, 21, 22, 23, 24, 25, 26, 27, 28, 29, 30, 31, 32, 33, 34, 35, 36, 37, 38, 39, 40, 41, 42, 43, 44, 45, 46, 47, 48, 49, 50, 51, 52, 53, 54, 55, 56, 57, 58, 59, 60, 61, 62, 63, 64, 65, 66, 67, 68, 69, 70, 71, 72, 73, 74, 75, 76, 77, 78, 79, 80, 81, 82, 83, 84, 85, 86, 87, 88, 89, 90, 91, 92, 93] (by decide +kernel) (by decide +kernel)
set_option maxRecDepth 20000 in
theorem gX8_shifts_X8_shiftsNow : GoodIn wsX8_shifts (wsV RX8 241 RX8 yX8_shiftsNow wsX8_shiftsNow) := goodIn_app (goodIn_of _ (by decide +kernel)) ggX8_shifts_X8_shiftsNow
theorem dX8_shifts_0 : decode cX8_shifts 0 = .ok (.iload_n 1, 1) := by decide +kernel
theorem dX8_shifts_1 : decode cX8_shifts 1 = .ok (.iconst 1, 1) := by decide +kernel
theorem dX8_shifts_2 : decode cX8_shifts 2 = .ok (.bipush 60, 2) := by decide +kernel
theorem dX8_shifts_4 : decode cX8_shifts 4 = .ok (.invokestatic 77, 3) := by decide +kernel
theorem dX8_shifts_7 : decode cX8_shifts 7 = .ok (.ifCond .eq 16, 3) := by decide +kernel
theorem dX8_shifts_10 : decode cX8_shifts 10 = .ok (.iload_n 2, 1) := by decide +kernel
theorem dX8_shifts_11 : decode cX8_shifts 11 = .ok (.ifCond .lt 12, 3) := by decide +kernel
theorem dX8_shifts_14 : decode cX8_shifts 14 = .ok (.iload_n 3, 1) := by decide +kernel
theorem dX8_shifts_15 : decode cX8_shifts 15 = .ok (.iconst 0, 1) := by decide +kernel
theorem dX8_shifts_16 : decode cX8_shifts 16 = .ok (.iconst 2, 1) := by decide +kernel
theorem dX8_shifts_17 : decode cX8_shifts 17 = .ok (.invokestatic 77, 3) := by decide +kernel
theorem dX8_shifts_20 : decode cX8_shifts 20 = .ok (.ifCond .ne 6, 3) := by decide +kernel
theorem dX8_shifts_23 : decode cX8_shifts 23 = .ok (.bipush (-102), 2) := by decide +kernel
theorem dX8_shifts_25 : decode cX8_shifts 25 = .ok (.ireturn, 1) := by decide +kernel
theorem dX8_shifts_26 : decode cX8_shifts 26 = .ok (.aload_n 0, 1) := by decide +kernel
theorem dX8_shifts_27 : decode cX8_shifts 27 = .ok (.getfield 109, 3) := by decide +kernel
theorem dX8_shifts_30 : decode cX8_shifts 30 = .ok (.ifCond .ne 8, 3) := by decide +kernel
theorem dX8_shifts_33 : decode cX8_shifts 33 = .ok (.bipush (-103), 2) := by decide +kernel
theorem dX8_shifts_35 : decode cX8_shifts 35 = .ok (.goto 10, 3) := by decide +kernel
theorem dX8_shifts_38 : decode cX8_shifts 38 = .ok (.aload_n 0, 1) := by decide +kernel
theorem dX8_shifts_39 : decode cX8_shifts 39 = .ok (.iload_n 1, 1) := by decide +kernel
theorem dX8_shifts_40 : decode cX8_shifts 40 = .ok (.iload_n 2, 1) := by decide +kernel
theorem dX8_shifts_41 : decode cX8_shifts 41 = .ok (.iload_n 3, 1) := by decide +kernel
theorem dX8_shifts_42 : decode cX8_shifts 42 = .ok (.invokevirtual 241, 3) := by decide +kernel
theorem dX8_shifts_45 : decode cX8_shifts 45 = .ok (.ireturn, 1) := by decide +kernel
theorem dX8_image_0 : decode cX8_image 0 = .ok (.aload_n 0, 1) := by decide +kernel
theorem dX8_image_1 : decode cX8_image 1 = .ok (.getfield 109, 3) := by decide +kernel
theorem dX8_image_4 : decode cX8_image 4 = .ok (.ifCond .ne 6, 3) := by decide +kernel
theorem dX8_image_7 : decode cX8_image 7 = .ok (.bipush (-103), 2) := by decide +kernel
theorem dX8_image_9 : decode cX8_image 9 = .ok (.ireturn, 1) := by decide +kernel
theorem dX8_image_10 : decode cX8_image 10 = .ok (.aload_n 0, 1) := by decide +kernel
theorem dX8_image_11 : decode cX8_image 11 = .ok (.iconst 1, 1) := by decide +kernel
theorem dX8_image_12 : decode cX8_image 12 = .ok (.putfield 244, 3) := by decide +kernel
theorem dX8_image_15 : decode cX8_image 15 = .ok (.aload_n 0, 1) := by decide +kernel
theorem dX8_image_16 : decode cX8_image 16 = .ok (.aload_n 0, 1) := by decide +kernel
theorem dX8_image_17 : decode cX8_image 17 = .ok (.getfield 115, 3) := by decide +kernel
theorem dX8_image_20 : decode cX8_image 20 = .ok (.putfield 247, 3) := by decide +kernel
theorem dX8_image_23 : decode cX8_image 23 = .ok (.aload_n 0, 1) := by decide +kernel
theorem dX8_image_24 : decode cX8_image 24 = .ok (.aload_n 0, 1) := by decide +kernel
theorem dX8_image_25 : decode cX8_image 25 = .ok (.getfield 118, 3) := by decide +kernel
theorem dX8_image_28 : decode cX8_image 28 = .ok (.putfield 250, 3) := by decide +kernel
theorem dX8_image_31 : decode cX8_image 31 = .ok (.aload_n 0, 1) := by decide +kernel
theorem dX8_image_32 : decode cX8_image 32 = .ok (.aload_n 0, 1) := by decide +kernel
theorem dX8_image_33 : decode cX8_image 33 = .ok (.getfield 121, 3) := by decide +kernel
theorem dX8_image_36 : decode cX8_image 36 = .ok (.putfield 253, 3) := by decide +kernel
theorem dX8_image_39 : decode cX8_image 39 = .ok (.aload_n 0, 1) := by decide +kernel
theorem dX8_image_40 : decode cX8_image 40 = .ok (.aload_n 0, 1) := by decide +kernel
theorem dX8_image_41 : decode cX8_image 41 = .ok (.getfield 124, 3) := by decide +kernel
theorem dX8_image_44 : decode cX8_image 44 = .ok (.putfield 256, 3) := by decide +kernel
theorem dX8_image_47 : decode cX8_image 47 = .ok (.aload_n 0, 1) := by decide +kernel
theorem dX8_image_48 : decode cX8_image 48 = .ok (.aload_n 0, 1) := by decide +kernel
theorem dX8_image_49 : decode cX8_image 49 = .ok (.getfield 127, 3) := by decide +kernel
theorem dX8_image_52 : decode cX8_image 52 = .ok (.putfield 259, 3) := by decide +kernel
theorem dX8_image_55 : decode cX8_image 55 = .ok (.iconst 0, 1) := by decide +kernel
theorem dX8_image_56 : decode cX8_image 56 = .ok (.istore_n 1, 1) := by decide +kernel
theorem dX8_image_57 : decode cX8_image 57 = .ok (.iload_n 1, 1) := by decide +kernel
theorem dX8_image_58 : decode cX8_image 58 = .ok (.bipush 6, 2) := by decide +kernel
theorem dX8_image_60 : decode cX8_image 60 = .ok (.if_icmp .ge 69, 3) := by decide +kernel
theorem dX8_image_63 : decode cX8_image 63 = .ok (.aload_n 0, 1) := by decide +kernel
theorem dX8_image_64 : decode cX8_image 64 = .ok (.getfield 50, 3) := by decide +kernel
theorem dX8_image_67 : decode cX8_image 67 = .ok (.iload_n 1, 1) := by decide +kernel
theorem dX8_image_68 : decode cX8_image 68 = .ok (.aload_n 0, 1) := by decide +kernel
theorem dX8_image_69 : decode cX8_image 69 = .ok (.getfield 19, 3) := by decide +kernel
theorem dX8_image_72 : decode cX8_image 72 = .ok (.iload_n 1, 1) := by decide +kernel
theorem dX8_image_73 : decode cX8_image 73 = .ok (.iaload, 1) := by decide +kernel
theorem dX8_image_74 : decode cX8_image 74 = .ok (.iastore, 1) := by decide +kernel
theorem dX8_image_75 : decode cX8_image 75 = .ok (.aload_n 0, 1) := by decide +kernel
theorem dX8_image_76 : decode cX8_image 76 = .ok (.getfield 53, 3) := by decide +kernel
theorem dX8_image_79 : decode cX8_image 79 = .ok (.iload_n 1, 1) := by decide +kernel
theorem dX8_image_80 : decode cX8_image 80 = .ok (.aload_n 0, 1) := by decide +kernel
theorem dX8_image_81 : decode cX8_image 81 = .ok (.getfield 22, 3) := by decide +kernel
theorem dX8_image_84 : decode cX8_image 84 = .ok (.iload_n 1, 1) := by decide +kernel
theorem dX8_image_85 : decode cX8_image 85 = .ok (.iaload, 1) := by decide +kernel
theorem dX8_image_86 : decode cX8_image 86 = .ok (.iastore, 1) := by decide +kernel
theorem dX8_image_87 : decode cX8_image 87 = .ok (.aload_n 0, 1) := by decide +kernel
theorem dX8_image_88 : decode cX8_image 88 = .ok (.getfield 56, 3) := by decide +kernel
theorem dX8_image_91 : decode cX8_image 91 = .ok (.iload_n 1, 1) := by decide +kernel
theorem dX8_image_92 : decode cX8_image 92 = .ok (.aload_n 0, 1) := by decide +kernel
theorem dX8_image_93 : decode cX8_image 93 = .ok (.getfield 25, 3) := by decide +kernel
theorem dX8_image_96 : decode cX8_image 96 = .ok (.iload_n 1, 1) := by decide +kernel
theorem dX8_image_97 : decode cX8_image 97 = .ok (.iaload, 1) := by decide +kernel
theorem dX8_image_98 : decode cX8_image 98 = .ok (.iastore, 1) := by decide +kernel
theorem dX8_image_99 : decode cX8_image 99 = .ok (.aload_n 0, 1) := by decide +kernel
theorem dX8_image_100 : decode cX8_image 100 = .ok (.getfield 59, 3) := by decide +kernel
theorem dX8_image_103 : decode cX8_image 103 = .ok (.iload_n 1, 1) := by decide +kernel
theorem dX8_image_104 : decode cX8_image 104 = .ok (.aload_n 0, 1) := by decide +kernel
theorem dX8_image_105 : decode cX8_image 105 = .ok (.getfield 28, 3) := by decide +kernel
theorem dX8_image_108 : decode cX8_image 108 = .ok (.iload_n 1, 1) := by decide +kernel
theorem dX8_image_109 : decode cX8_image 109 = .ok (.iaload, 1) := by decide +kernel
theorem dX8_image_110 : decode cX8_image 110 = .ok (.iastore, 1) := by decide +kernel
theorem dX8_image_111 : decode cX8_image 111 = .ok (.aload_n 0, 1) := by decide +kernel
theorem dX8_image_112 : decode cX8_image 112 = .ok (.getfield 62, 3) := by decide +kernel
theorem dX8_image_115 : decode cX8_image 115 = .ok (.iload_n 1, 1) := by decide +kernel
theorem dX8_image_116 : decode cX8_image 116 = .ok (.aload_n 0, 1) := by decide +kernel
theorem dX8_image_117 : decode cX8_image 117 = .ok (.getfield 31, 3) := by decide +kernel
theorem dX8_image_120 : decode cX8_image 120 = .ok (.iload_n 1, 1) := by decide +kernel
theorem dX8_image_121 : decode cX8_image 121 = .ok (.iaload, 1) := by decide +kernel
theorem dX8_image_122 : decode cX8_image 122 = .ok (.iastore, 1) := by decide +kernel
theorem dX8_image_123 : decode cX8_image 123 = .ok (.iinc 1 1, 3) := by decide +kernel
theorem dX8_image_126 : decode cX8_image 126 = .ok (.goto (-69), 3) := by decide +kernel
theorem dX8_image_129 : decode cX8_image 129 = .ok (.iconst 0, 1) := by decide +kernel
theorem dX8_image_130 : decode cX8_image 130 = .ok (.istore_n 1, 1) := by decide +kernel
theorem dX8_image_131 : decode cX8_image 131 = .ok (.iload_n 1, 1) := by decide +kernel
theorem dX8_image_132 : decode cX8_image 132 = .ok (.bipush 8, 2) := by decide +kernel
theorem dX8_image_134 : decode cX8_image 134 = .ok (.if_icmp .ge 57, 3) := by decide +kernel
theorem dX8_image_137 : decode cX8_image 137 = .ok (.aload_n 0, 1) := by decide +kernel
theorem dX8_image_138 : decode cX8_image 138 = .ok (.getfield 65, 3) := by decide +kernel
theorem dX8_image_141 : decode cX8_image 141 = .ok (.iload_n 1, 1) := by decide +kernel
theorem dX8_image_142 : decode cX8_image 142 = .ok (.aload_n 0, 1) := by decide +kernel
theorem dX8_image_143 : decode cX8_image 143 = .ok (.getfield 34, 3) := by decide +kernel
theorem dX8_image_146 : decode cX8_image 146 = .ok (.iload_n 1, 1) := by decide +kernel
theorem dX8_image_147 : decode cX8_image 147 = .ok (.iaload, 1) := by decide +kernel
theorem dX8_image_148 : decode cX8_image 148 = .ok (.iastore, 1) := by decide +kernel
theorem dX8_image_149 : decode cX8_image 149 = .ok (.aload_n 0, 1) := by decide +kernel
theorem dX8_image_150 : decode cX8_image 150 = .ok (.getfield 68, 3) := by decide +kernel
theorem dX8_image_153 : decode cX8_image 153 = .ok (.iload_n 1, 1) := by decide +kernel
theorem dX8_image_154 : decode cX8_image 154 = .ok (.aload_n 0, 1) := by decide +kernel
theorem dX8_image_155 : decode cX8_image 155 = .ok (.getfield 37, 3) := by decide +kernel
theorem dX8_image_158 : decode cX8_image 158 = .ok (.iload_n 1, 1) := by decide +kernel
theorem dX8_image_159 : decode cX8_image 159 = .ok (.iaload, 1) := by decide +kernel
theorem dX8_image_160 : decode cX8_image 160 = .ok (.iastore, 1) := by decide +kernel
theorem dX8_image_161 : decode cX8_image 161 = .ok (.aload_n 0, 1) := by decide +kernel
theorem dX8_image_162 : decode cX8_image 162 = .ok (.getfield 71, 3) := by decide +kernel
theorem dX8_image_165 : decode cX8_image 165 = .ok (.iload_n 1, 1) := by decide +kernel
theorem dX8_image_166 : decode cX8_image 166 = .ok (.aload_n 0, 1) := by decide +kernel
theorem dX8_image_167 : decode cX8_image 167 = .ok (.getfield 40, 3) := by decide +kernel
theorem dX8_image_170 : decode cX8_image 170 = .ok (.iload_n 1, 1) := by decide +kernel
theorem dX8_image_171 : decode cX8_image 171 = .ok (.iaload, 1) := by decide +kernel
theorem dX8_image_172 : decode cX8_image 172 = .ok (.iastore, 1) := by decide +kernel
theorem dX8_image_173 : decode cX8_image 173 = .ok (.aload_n 0, 1) := by decide +kernel
theorem dX8_image_174 : decode cX8_image 174 = .ok (.getfield 74, 3) := by decide +kernel
theorem dX8_image_177 : decode cX8_image 177 = .ok (.iload_n 1, 1) := by decide +kernel
theorem dX8_image_178 : decode cX8_image 178 = .ok (.aload_n 0, 1) := by decide +kernel
theorem dX8_image_179 : decode cX8_image 179 = .ok (.getfield 43, 3) := by decide +kernel
theorem dX8_image_182 : decode cX8_image 182 = .ok (.iload_n 1, 1) := by decide +kernel
theorem dX8_image_183 : decode cX8_image 183 = .ok (.iaload, 1) := by decide +kernel
theorem dX8_image_184 : decode cX8_image 184 = .ok (.iastore, 1) := by decide +kernel
theorem dX8_image_185 : decode cX8_image 185 = .ok (.iinc 1 1, 3) := by decide +kernel
theorem dX8_image_188 : decode cX8_image 188 = .ok (.goto (-57), 3) := by decide +kernel
theorem dX8_image_191 : decode cX8_image 191 = .ok (.aload_n 0, 1) := by decide +kernel
theorem dX8_image_192 : decode cX8_image 192 = .ok (.getfield 121, 3) := by decide +kernel
theorem dX8_image_195 : decode cX8_image 195 = .ok (.ireturn, 1) := by decide +kernel
theorem dX8_restore_0 : decode cX8_restore 0 = .ok (.aload_n 0, 1) := by decide +kernel
theorem dX8_restore_1 : decode cX8_restore 1 = .ok (.getfield 244, 3) := by decide +kernel
theorem dX8_restore_4 : decode cX8_restore 4 = .ok (.ifCond .eq 14, 3) := by decide +kernel
theorem dX8_restore_7 : decode cX8_restore 7 = .ok (.aload_n 0, 1) := by decide +kernel
theorem dX8_restore_8 : decode cX8_restore 8 = .ok (.getfield 247, 3) := by decide +kernel
theorem dX8_restore_11 : decode cX8_restore 11 = .ok (.aload_n 0, 1) := by decide +kernel
theorem dX8_restore_12 : decode cX8_restore 12 = .ok (.getfield 115, 3) := by decide +kernel
theorem dX8_restore_15 : decode cX8_restore 15 = .ok (.if_icmp .eq 6, 3) := by decide +kernel
theorem dX8_restore_18 : decode cX8_restore 18 = .ok (.bipush (-103), 2) := by decide +kernel
theorem dX8_restore_20 : decode cX8_restore 20 = .ok (.ireturn, 1) := by decide +kernel
theorem dX8_restore_21 : decode cX8_restore 21 = .ok (.aload_n 0, 1) := by decide +kernel
theorem dX8_restore_22 : decode cX8_restore 22 = .ok (.aload_n 0, 1) := by decide +kernel
theorem dX8_restore_23 : decode cX8_restore 23 = .ok (.getfield 250, 3) := by decide +kernel
theorem dX8_restore_26 : decode cX8_restore 26 = .ok (.putfield 118, 3) := by decide +kernel
theorem dX8_restore_29 : decode cX8_restore 29 = .ok (.aload_n 0, 1) := by decide +kernel
theorem dX8_restore_30 : decode cX8_restore 30 = .ok (.aload_n 0, 1) := by decide +kernel
theorem dX8_restore_31 : decode cX8_restore 31 = .ok (.getfield 253, 3) := by decide +kernel
theorem dX8_restore_34 : decode cX8_restore 34 = .ok (.putfield 121, 3) := by decide +kernel
theorem dX8_restore_37 : decode cX8_restore 37 = .ok (.aload_n 0, 1) := by decide +kernel
theorem dX8_restore_38 : decode cX8_restore 38 = .ok (.aload_n 0, 1) := by decide +kernel
theorem dX8_restore_39 : decode cX8_restore 39 = .ok (.getfield 256, 3) := by decide +kernel
theorem dX8_restore_42 : decode cX8_restore 42 = .ok (.putfield 124, 3) := by decide +kernel
theorem dX8_restore_45 : decode cX8_restore 45 = .ok (.aload_n 0, 1) := by decide +kernel
theorem dX8_restore_46 : decode cX8_restore 46 = .ok (.aload_n 0, 1) := by decide +kernel
theorem dX8_restore_47 : decode cX8_restore 47 = .ok (.getfield 259, 3) := by decide +kernel
theorem dX8_restore_50 : decode cX8_restore 50 = .ok (.putfield 127, 3) := by decide +kernel
theorem dX8_restore_53 : decode cX8_restore 53 = .ok (.iconst 0, 1) := by decide +kernel
theorem dX8_restore_54 : decode cX8_restore 54 = .ok (.istore_n 1, 1) := by decide +kernel
theorem dX8_restore_55 : decode cX8_restore 55 = .ok (.iload_n 1, 1) := by decide +kernel
theorem dX8_restore_56 : decode cX8_restore 56 = .ok (.bipush 6, 2) := by decide +kernel
theorem dX8_restore_58 : decode cX8_restore 58 = .ok (.if_icmp .ge 69, 3) := by decide +kernel
theorem dX8_restore_61 : decode cX8_restore 61 = .ok (.aload_n 0, 1) := by decide +kernel
theorem dX8_restore_62 : decode cX8_restore 62 = .ok (.getfield 19, 3) := by decide +kernel
theorem dX8_restore_65 : decode cX8_restore 65 = .ok (.iload_n 1, 1) := by decide +kernel
theorem dX8_restore_66 : decode cX8_restore 66 = .ok (.aload_n 0, 1) := by decide +kernel
theorem dX8_restore_67 : decode cX8_restore 67 = .ok (.getfield 50, 3) := by decide +kernel
theorem dX8_restore_70 : decode cX8_restore 70 = .ok (.iload_n 1, 1) := by decide +kernel
theorem dX8_restore_71 : decode cX8_restore 71 = .ok (.iaload, 1) := by decide +kernel
theorem dX8_restore_72 : decode cX8_restore 72 = .ok (.iastore, 1) := by decide +kernel
theorem dX8_restore_73 : decode cX8_restore 73 = .ok (.aload_n 0, 1) := by decide +kernel
theorem dX8_restore_74 : decode cX8_restore 74 = .ok (.getfield 22, 3) := by decide +kernel
theorem dX8_restore_77 : decode cX8_restore 77 = .ok (.iload_n 1, 1) := by decide +kernel
theorem dX8_restore_78 : decode cX8_restore 78 = .ok (.aload_n 0, 1) := by decide +kernel
theorem dX8_restore_79 : decode cX8_restore 79 = .ok (.getfield 53, 3) := by decide +kernel
theorem dX8_restore_82 : decode cX8_restore 82 = .ok (.iload_n 1, 1) := by decide +kernel
theorem dX8_restore_83 : decode cX8_restore 83 = .ok (.iaload, 1) := by decide +kernel
theorem dX8_restore_84 : decode cX8_restore 84 = .ok (.iastore, 1) := by decide +kernel
theorem dX8_restore_85 : decode cX8_restore 85 = .ok (.aload_n 0, 1) := by decide +kernel
theorem dX8_restore_86 : decode cX8_restore 86 = .ok (.getfield 25, 3) := by decide +kernel
theorem dX8_restore_89 : decode cX8_restore 89 = .ok (.iload_n 1, 1) := by decide +kernel
theorem dX8_restore_90 : decode cX8_restore 90 = .ok (.aload_n 0, 1) := by decide +kernel
theorem dX8_restore_91 : decode cX8_restore 91 = .ok (.getfield 56, 3) := by decide +kernel
theorem dX8_restore_94 : decode cX8_restore 94 = .ok (.iload_n 1, 1) := by decide +kernel
theorem dX8_restore_95 : decode cX8_restore 95 = .ok (.iaload, 1) := by decide +kernel
theorem dX8_restore_96 : decode cX8_restore 96 = .ok (.iastore, 1) := by decide +kernel
theorem dX8_restore_97 : decode cX8_restore 97 = .ok (.aload_n 0, 1) := by decide +kernel
theorem dX8_restore_98 : decode cX8_restore 98 = .ok (.getfield 28, 3) := by decide +kernel
theorem dX8_restore_101 : decode cX8_restore 101 = .ok (.iload_n 1, 1) := by decide +kernel
theorem dX8_restore_102 : decode cX8_restore 102 = .ok (.aload_n 0, 1) := by decide +kernel
theorem dX8_restore_103 : decode cX8_restore 103 = .ok (.getfield 59, 3) := by decide +kernel
theorem dX8_restore_106 : decode cX8_restore 106 = .ok (.iload_n 1, 1) := by decide +kernel
theorem dX8_restore_107 : decode cX8_restore 107 = .ok (.iaload, 1) := by decide +kernel
theorem dX8_restore_108 : decode cX8_restore 108 = .ok (.iastore, 1) := by decide +kernel
theorem dX8_restore_109 : decode cX8_restore 109 = .ok (.aload_n 0, 1) := by decide +kernel
theorem dX8_restore_110 : decode cX8_restore 110 = .ok (.getfield 31, 3) := by decide +kernel
theorem dX8_restore_113 : decode cX8_restore 113 = .ok (.iload_n 1, 1) := by decide +kernel
theorem dX8_restore_114 : decode cX8_restore 114 = .ok (.aload_n 0, 1) := by decide +kernel
theorem dX8_restore_115 : decode cX8_restore 115 = .ok (.getfield 62, 3) := by decide +kernel
theorem dX8_restore_118 : decode cX8_restore 118 = .ok (.iload_n 1, 1) := by decide +kernel
theorem dX8_restore_119 : decode cX8_restore 119 = .ok (.iaload, 1) := by decide +kernel
theorem dX8_restore_120 : decode cX8_restore 120 = .ok (.iastore, 1) := by decide +kernel
theorem dX8_restore_121 : decode cX8_restore 121 = .ok (.iinc 1 1, 3) := by decide +kernel
theorem dX8_restore_124 : decode cX8_restore 124 = .ok (.goto (-69), 3) := by decide +kernel
theorem dX8_restore_127 : decode cX8_restore 127 = .ok (.iconst 0, 1) := by decide +kernel
theorem dX8_restore_128 : decode cX8_restore 128 = .ok (.istore_n 1, 1) := by decide +kernel
theorem dX8_restore_129 : decode cX8_restore 129 = .ok (.iload_n 1, 1) := by decide +kernel
theorem dX8_restore_130 : decode cX8_restore 130 = .ok (.bipush 8, 2) := by decide +kernel
theorem dX8_restore_132 : decode cX8_restore 132 = .ok (.if_icmp .ge 57, 3) := by decide +kernel
theorem dX8_restore_135 : decode cX8_restore 135 = .ok (.aload_n 0, 1) := by decide +kernel
theorem dX8_restore_136 : decode cX8_restore 136 = .ok (.getfield 34, 3) := by decide +kernel
theorem dX8_restore_139 : decode cX8_restore 139 = .ok (.iload_n 1, 1) := by decide +kernel
theorem dX8_restore_140 : decode cX8_restore 140 = .ok (.aload_n 0, 1) := by decide +kernel
theorem dX8_restore_141 : decode cX8_restore 141 = .ok (.getfield 65, 3) := by decide +kernel
theorem dX8_restore_144 : decode cX8_restore 144 = .ok (.iload_n 1, 1) := by decide +kernel
theorem dX8_restore_145 : decode cX8_restore 145 = .ok (.iaload, 1) := by decide +kernel
theorem dX8_restore_146 : decode cX8_restore 146 = .ok (.iastore, 1) := by decide +kernel
theorem dX8_restore_147 : decode cX8_restore 147 = .ok (.aload_n 0, 1) := by decide +kernel
theorem dX8_restore_148 : decode cX8_restore 148 = .ok (.getfield 37, 3) := by decide +kernel
theorem dX8_restore_151 : decode cX8_restore 151 = .ok (.iload_n 1, 1) := by decide +kernel
theorem dX8_restore_152 : decode cX8_restore 152 = .ok (.aload_n 0, 1) := by decide +kernel
theorem dX8_restore_153 : decode cX8_restore 153 = .ok (.getfield 68, 3) := by decide +kernel
theorem dX8_restore_156 : decode cX8_restore 156 = .ok (.iload_n 1, 1) := by decide +kernel
theorem dX8_restore_157 : decode cX8_restore 157 = .ok (.iaload, 1) := by decide +kernel
theorem dX8_restore_158 : decode cX8_restore 158 = .ok (.iastore, 1) := by decide +kernel
theorem dX8_restore_159 : decode cX8_restore 159 = .ok (.aload_n 0, 1) := by decide +kernel
theorem dX8_restore_160 : decode cX8_restore 160 = .ok (.getfield 40, 3) := by decide +kernel
theorem dX8_restore_163 : decode cX8_restore 163 = .ok (.iload_n 1, 1) := by decide +kernel
theorem dX8_restore_164 : decode cX8_restore 164 = .ok (.aload_n 0, 1) := by decide +kernel
theorem dX8_restore_165 : decode cX8_restore 165 = .ok (.getfield 71, 3) := by decide +kernel
theorem dX8_restore_168 : decode cX8_restore 168 = .ok (.iload_n 1, 1) := by decide +kernel
theorem dX8_restore_169 : decode cX8_restore 169 = .ok (.iaload, 1) := by decide +kernel
theorem dX8_restore_170 : decode cX8_restore 170 = .ok (.iastore, 1) := by decide +kernel
theorem dX8_restore_171 : decode cX8_restore 171 = .ok (.aload_n 0, 1) := by decide +kernel
theorem dX8_restore_172 : decode cX8_restore 172 = .ok (.getfield 43, 3) := by decide +kernel
theorem dX8_restore_175 : decode cX8_restore 175 = .ok (.iload_n 1, 1) := by decide +kernel
theorem dX8_restore_176 : decode cX8_restore 176 = .ok (.aload_n 0, 1) := by decide +kernel
theorem dX8_restore_177 : decode cX8_restore 177 = .ok (.getfield 74, 3) := by decide +kernel
theorem dX8_restore_180 : decode cX8_restore 180 = .ok (.iload_n 1, 1) := by decide +kernel
theorem dX8_restore_181 : decode cX8_restore 181 = .ok (.iaload, 1) := by decide +kernel
theorem dX8_restore_182 : decode cX8_restore 182 = .ok (.iastore, 1) := by decide +kernel
theorem dX8_restore_183 : decode cX8_restore 183 = .ok (.iinc 1 1, 3) := by decide +kernel
theorem dX8_restore_186 : decode cX8_restore 186 = .ok (.goto (-57), 3) := by decide +kernel
theorem dX8_restore_189 : decode cX8_restore 189 = .ok (.aload_n 0, 1) := by decide +kernel
theorem dX8_restore_190 : decode cX8_restore 190 = .ok (.getfield 121, 3) := by decide +kernel
theorem dX8_restore_193 : decode cX8_restore 193 = .ok (.ireturn, 1) := by decide +kernel
theorem dX8_inSacks_0 : decode cX8_inSacks 0 = .ok (.iconst 0, 1) := by decide +kernel
theorem dX8_inSacks_1 : decode cX8_inSacks 1 = .ok (.istore_n 2, 1) := by decide +kernel
theorem dX8_inSacks_2 : decode cX8_inSacks 2 = .ok (.iconst 0, 1) := by decide +kernel
theorem dX8_inSacks_3 : decode cX8_inSacks 3 = .ok (.istore_n 3, 1) := by decide +kernel
theorem dX8_inSacks_4 : decode cX8_inSacks 4 = .ok (.iload_n 3, 1) := by decide +kernel
theorem dX8_inSacks_5 : decode cX8_inSacks 5 = .ok (.aload_n 0, 1) := by decide +kernel
theorem dX8_inSacks_6 : decode cX8_inSacks 6 = .ok (.getfield 109, 3) := by decide +kernel
theorem dX8_inSacks_9 : decode cX8_inSacks 9 = .ok (.if_icmp .ge 31, 3) := by decide +kernel
theorem dX8_inSacks_12 : decode cX8_inSacks 12 = .ok (.iload_n 2, 1) := by decide +kernel
theorem dX8_inSacks_13 : decode cX8_inSacks 13 = .ok (.iload_n 1, 1) := by decide +kernel
theorem dX8_inSacks_14 : decode cX8_inSacks 14 = .ok (.ifCond .eq 12, 3) := by decide +kernel
theorem dX8_inSacks_17 : decode cX8_inSacks 17 = .ok (.aload_n 0, 1) := by decide +kernel
theorem dX8_inSacks_18 : decode cX8_inSacks 18 = .ok (.getfield 25, 3) := by decide +kernel
theorem dX8_inSacks_21 : decode cX8_inSacks 21 = .ok (.iload_n 3, 1) := by decide +kernel
theorem dX8_inSacks_22 : decode cX8_inSacks 22 = .ok (.iaload, 1) := by decide +kernel
theorem dX8_inSacks_23 : decode cX8_inSacks 23 = .ok (.goto 9, 3) := by decide +kernel
theorem dX8_inSacks_26 : decode cX8_inSacks 26 = .ok (.aload_n 0, 1) := by decide +kernel
theorem dX8_inSacks_27 : decode cX8_inSacks 27 = .ok (.getfield 22, 3) := by decide +kernel
theorem dX8_inSacks_30 : decode cX8_inSacks 30 = .ok (.iload_n 3, 1) := by decide +kernel
theorem dX8_inSacks_31 : decode cX8_inSacks 31 = .ok (.iaload, 1) := by decide +kernel
theorem dX8_inSacks_32 : decode cX8_inSacks 32 = .ok (.iadd, 1) := by decide +kernel
theorem dX8_inSacks_33 : decode cX8_inSacks 33 = .ok (.istore_n 2, 1) := by decide +kernel
theorem dX8_inSacks_34 : decode cX8_inSacks 34 = .ok (.iinc 3 1, 3) := by decide +kernel
theorem dX8_inSacks_37 : decode cX8_inSacks 37 = .ok (.goto (-33), 3) := by decide +kernel
theorem dX8_inSacks_40 : decode cX8_inSacks 40 = .ok (.iload_n 2, 1) := by decide +kernel
theorem dX8_inSacks_41 : decode cX8_inSacks 41 = .ok (.ireturn, 1) := by decide +kernel
set_option maxRecDepth 20000 in
theorem ggX8_howMany_X8_inSacks : GoodIn wsX8_howMany wsX8_inSacks := goodIn_r _ [12, 1, 13, 14, 15, 16, 17, 18, 19, 20, 21, 22, 23, 24, 25, 26, 27, 28, 29, 30, 31, 32, 33, 34, 35, 36, 37, 38, 39, 40, 41, 42, 43, 44, 45, 46, 47, 48, 49, 50, 51, 52, 53, 54, 55, 56] (by decide +kernel) (by decide +kernel)
set_option maxRecDepth 20000 in
theorem gX8_howMany_X8_inSacks : GoodIn wsX8_howMany (wsV RX8 262 RX8 yX8_inSacks wsX8_inSacks) := goodIn_app (goodIn_of _ (by decide +kernel)) ggX8_howMany_X8_inSacks
theorem dX8_howMany_0 : decode cX8_howMany 0 = .ok (.iload_n 1, 1) := by decide +kernel
theorem dX8_howMany_1 : decode cX8_howMany 1 = .ok (.tableswitch 98 0 8 #[51, 56, 61, 67, 73, 78, 83, 88, 93], 51) := by decide +kernel
theorem dX8_howMany_52 : decode cX8_howMany 52 = .ok (.aload_n 0, 1) := by decide +kernel
theorem dX8_howMany_53 : decode cX8_howMany 53 = .ok (.getfield 109, 3) := by decide +kernel
theorem dX8_howMany_56 : decode cX8_howMany 56 = .ok (.ireturn, 1) := by decide +kernel
theorem dX8_howMany_57 : decode cX8_howMany 57 = .ok (.aload_n 0, 1) := by decide +kernel
theorem dX8_howMany_58 : decode cX8_howMany 58 = .ok (.getfield 118, 3) := by decide +kernel
theorem dX8_howMany_61 : decode cX8_howMany 61 = .ok (.ireturn, 1) := by decide +kernel
theorem dX8_howMany_62 : decode cX8_howMany 62 = .ok (.aload_n 0, 1) := by decide +kernel
theorem dX8_howMany_63 : decode cX8_howMany 63 = .ok (.iconst 0, 1) := by decide +kernel
theorem dX8_howMany_64 : decode cX8_howMany 64 = .ok (.invokevirtual 262, 3) := by decide +kernel
theorem dX8_howMany_67 : decode cX8_howMany 67 = .ok (.ireturn, 1) := by decide +kernel
theorem dX8_howMany_68 : decode cX8_howMany 68 = .ok (.aload_n 0, 1) := by decide +kernel
theorem dX8_howMany_69 : decode cX8_howMany 69 = .ok (.iconst 1, 1) := by decide +kernel
theorem dX8_howMany_70 : decode cX8_howMany 70 = .ok (.invokevirtual 262, 3) := by decide +kernel
theorem dX8_howMany_73 : decode cX8_howMany 73 = .ok (.ireturn, 1) := by decide +kernel
theorem dX8_howMany_74 : decode cX8_howMany 74 = .ok (.aload_n 0, 1) := by decide +kernel
theorem dX8_howMany_75 : decode cX8_howMany 75 = .ok (.getfield 121, 3) := by decide +kernel
theorem dX8_howMany_78 : decode cX8_howMany 78 = .ok (.ireturn, 1) := by decide +kernel
theorem dX8_howMany_79 : decode cX8_howMany 79 = .ok (.aload_n 0, 1) := by decide +kernel
theorem dX8_howMany_80 : decode cX8_howMany 80 = .ok (.getfield 124, 3) := by decide +kernel
theorem dX8_howMany_83 : decode cX8_howMany 83 = .ok (.ireturn, 1) := by decide +kernel
theorem dX8_howMany_84 : decode cX8_howMany 84 = .ok (.aload_n 0, 1) := by decide +kernel
theorem dX8_howMany_85 : decode cX8_howMany 85 = .ok (.getfield 127, 3) := by decide +kernel
theorem dX8_howMany_88 : decode cX8_howMany 88 = .ok (.ireturn, 1) := by decide +kernel
theorem dX8_howMany_89 : decode cX8_howMany 89 = .ok (.aload_n 0, 1) := by decide +kernel
theorem dX8_howMany_90 : decode cX8_howMany 90 = .ok (.getfield 81, 3) := by decide +kernel
theorem dX8_howMany_93 : decode cX8_howMany 93 = .ok (.ireturn, 1) := by decide +kernel
theorem dX8_howMany_94 : decode cX8_howMany 94 = .ok (.aload_n 0, 1) := by decide +kernel
theorem dX8_howMany_95 : decode cX8_howMany 95 = .ok (.getfield 115, 3) := by decide +kernel
theorem dX8_howMany_98 : decode cX8_howMany 98 = .ok (.ireturn, 1) := by decide +kernel
theorem dX8_howMany_99 : decode cX8_howMany 99 = .ok (.bipush (-102), 2) := by decide +kernel
theorem dX8_howMany_101 : decode cX8_howMany 101 = .ok (.ireturn, 1) := by decide +kernel
set_option maxRecDepth 20000 in
theorem ggX8_count_X8_howMany : GoodIn wsX8_count wsX8_howMany := goodIn_r _ [5, 6, 7, 8, 9, 10, 11, 12, 13, 14, 15, 4, 16, 17, 18, 19, 20, 21, 22, 23, 24, 25, 26, 27, 28, 29, 30, 31, 32, 33, 34, 35, 36, 37, 38, 39, 40, 41, 42, 43, 44, 45, 46, 47, 48, 49, 50, 51, 52, 53, 54, 55, 56, 57, 58, 59, 60] (by decide +kernel) (by decide +kernel)
set_option maxRecDepth 20000 in
theorem gX8_count_X8_howMany : GoodIn wsX8_count (wsV RX8 266 RX8 yX8_howMany wsX8_howMany) := goodIn_app (goodIn_of _ (by decide +kernel)) ggX8_count_X8_howMany
theorem dX8_count_0 : decode cX8_count 0 = .ok (.aload_n 0, 1) := by decide +kernel
theorem dX8_count_1 : decode cX8_count 1 = .ok (.iload_n 1, 1) := by decide +kernel
theorem dX8_count_2 : decode cX8_count 2 = .ok (.invokevirtual 266, 3) := by decide +kernel
theorem dX8_count_5 : decode cX8_count 5 = .ok (.ireturn, 1) := by decide +kernel
theorem dX8_mix_0 : decode cX8_mix 0 = .ok (.aload_n 0, 1) := by decide +kernel
theorem dX8_mix_1 : decode cX8_mix 1 = .ok (.ldc2_w 269, 3) := by decide +kernel
theorem dX8_mix_4 : decode cX8_mix 4 = .ok (.aload_n 0, 1) := by decide +kernel
theorem dX8_mix_5 : decode cX8_mix 5 = .ok (.getfield 271, 3) := by decide +kernel
theorem dX8_mix_8 : decode cX8_mix 8 = .ok (.lmul, 1) := by decide +kernel
theorem dX8_mix_9 : decode cX8_mix 9 = .ok (.lload_n 1, 1) := by decide +kernel
theorem dX8_mix_10 : decode cX8_mix 10 = .ok (.ladd, 1) := by decide +kernel
theorem dX8_mix_11 : decode cX8_mix 11 = .ok (.putfield 271, 3) := by decide +kernel
theorem dX8_mix_14 : decode cX8_mix 14 = .ok (.return_, 1) := by decide +kernel
set_option maxRecDepth 20000 in
theorem ggX8_mixHook_X8_hookNow : GoodIn wsX8_mixHook wsX8_hookNow := goodIn_r _ [5, 6, 7, 8, 9, 10, 11, 12, 59, 60, 61, 62, 63, 64, 65, 66, 67, 68, 69, 70, 71, 72, 73, 74, 75, 76, 77, 78, 79, 80, 81, 82, 83, 84, 85, 86, 87, 88, 89, 90, 91, 92, 93, 94, 95, 96, 97, 98, 99, 100] (by decide +kernel) (by decide +kernel)
set_option maxRecDepth 20000 in
theorem gX8_mixHook_X8_hookNow : GoodIn wsX8_mixHook (wsV RX8 134 RX8 yX8_hookNow wsX8_hookNow) := goodIn_app (goodIn_of _ (by decide +kernel)) ggX8_mixHook_X8_hookNow
set_option maxRecDepth 20000 in
theorem ggX8_mixHook_X8_mix : GoodIn wsX8_mixHook wsX8_mix := goodIn_r _ [16, 17, 18, 59, 60, 61, 62, 63, 64, 65, 66, 67, 68, 69, 70, 71, 72, 73, 74, 75, 76, 77, 78, 79, 80, 81, 82, 83, 84, 85, 86, 87, 88, 89, 90, 91, 92, 93, 94, 95, 96, 97, 98, 99, 100] (by decide +kernel) (by decide +kernel)
set_option maxRecDepth 20000 in
theorem gX8_mixHook_X8_mix : GoodIn wsX8_mixHook (wsV RX8 274 RX8 yX8_mix wsX8_mix) := goodIn_app (goodIn_of _ (by decide +kernel)) ggX8_mixHook_X8_mix
set_option maxRecDepth 20000 in
theorem ggX8_mixHook_X8_oddsNow : GoodIn wsX8_mixHook wsX8_oddsNow := goodIn_r _ [22, 23, 24, 25, 4, 26, 27, 28, 29, 30, 7, 31, 32, 33, 34, 35, 36, 37, 38, 39, 40, 41, 42, 9, 6, 8, 43, 44, 45, 46, 47, 48, 49, 50, 51, 52, 53, 54, 55, 56, 57, 58, 59, 60, 61, 62, 63, 64, 65, 66, 67, 68, 69, 70, 71, 72, 73, 74, 75, 76, 77, 78, 79, 80, 81, 82, 83, 84, 85, 86, 87, 88, 89, 90, 91, 92, 93, 94, 95, 96, 97, 98, 99, 100] (by decide +kernel) (by decide +kernel)
set_option maxRecDepth 20000 in
theorem gX8_mixHook_X8_oddsNow : GoodIn wsX8_mixHook (wsV RX8 178 RX8 yX8_oddsNow wsX8_oddsNow) := goodIn_app (goodIn_of _ (by decide +kernel)) ggX8_mixHook_X8_oddsNow
theorem dX8_mixHook_0 : decode cX8_mixHook 0 = .ok (.iconst 0, 1) := by decide +kernel
theorem dX8_mixHook_1 : decode cX8_mixHook 1 = .ok (.istore_n 2, 1) := by decide +kernel
theorem dX8_mixHook_2 : decode cX8_mixHook 2 = .ok (.iload_n 2, 1) := by decide +kernel
theorem dX8_mixHook_3 : decode cX8_mixHook 3 = .ok (.bipush 7, 2) := by decide +kernel
theorem dX8_mixHook_5 : decode cX8_mixHook 5 = .ok (.if_icmp .ge 20, 3) := by decide +kernel
theorem dX8_mixHook_8 : decode cX8_mixHook 8 = .ok (.aload_n 0, 1) := by decide +kernel
theorem dX8_mixHook_9 : decode cX8_mixHook 9 = .ok (.aload_n 0, 1) := by decide +kernel
theorem dX8_mixHook_10 : decode cX8_mixHook 10 = .ok (.iload_n 1, 1) := by decide +kernel
theorem dX8_mixHook_11 : decode cX8_mixHook 11 = .ok (.iload_n 2, 1) := by decide +kernel
theorem dX8_mixHook_12 : decode cX8_mixHook 12 = .ok (.invokevirtual 134, 3) := by decide +kernel
theorem dX8_mixHook_15 : decode cX8_mixHook 15 = .ok (.i2l, 1) := by decide +kernel
theorem dX8_mixHook_16 : decode cX8_mixHook 16 = .ok (.invokevirtual 274, 3) := by decide +kernel
theorem dX8_mixHook_19 : decode cX8_mixHook 19 = .ok (.iinc 2 1, 3) := by decide +kernel
theorem dX8_mixHook_22 : decode cX8_mixHook 22 = .ok (.goto (-20), 3) := by decide +kernel
theorem dX8_mixHook_25 : decode cX8_mixHook 25 = .ok (.iconst 0, 1) := by decide +kernel
theorem dX8_mixHook_26 : decode cX8_mixHook 26 = .ok (.istore_n 2, 1) := by decide +kernel
theorem dX8_mixHook_27 : decode cX8_mixHook 27 = .ok (.iload_n 2, 1) := by decide +kernel
theorem dX8_mixHook_28 : decode cX8_mixHook 28 = .ok (.bipush 6, 2) := by decide +kernel
theorem dX8_mixHook_30 : decode cX8_mixHook 30 = .ok (.if_icmp .ge 21, 3) := by decide +kernel
theorem dX8_mixHook_33 : decode cX8_mixHook 33 = .ok (.aload_n 0, 1) := by decide +kernel
theorem dX8_mixHook_34 : decode cX8_mixHook 34 = .ok (.aload_n 0, 1) := by decide +kernel
theorem dX8_mixHook_35 : decode cX8_mixHook 35 = .ok (.iconst 0, 1) := by decide +kernel
theorem dX8_mixHook_36 : decode cX8_mixHook 36 = .ok (.iload_n 1, 1) := by decide +kernel
theorem dX8_mixHook_37 : decode cX8_mixHook 37 = .ok (.iload_n 2, 1) := by decide +kernel
theorem dX8_mixHook_38 : decode cX8_mixHook 38 = .ok (.invokevirtual 178, 3) := by decide +kernel
theorem dX8_mixHook_41 : decode cX8_mixHook 41 = .ok (.i2l, 1) := by decide +kernel
theorem dX8_mixHook_42 : decode cX8_mixHook 42 = .ok (.invokevirtual 274, 3) := by decide +kernel
theorem dX8_mixHook_45 : decode cX8_mixHook 45 = .ok (.iinc 2 1, 3) := by decide +kernel
theorem dX8_mixHook_48 : decode cX8_mixHook 48 = .ok (.goto (-21), 3) := by decide +kernel
theorem dX8_mixHook_51 : decode cX8_mixHook 51 = .ok (.aload_n 0, 1) := by decide +kernel
theorem dX8_mixHook_52 : decode cX8_mixHook 52 = .ok (.aload_n 0, 1) := by decide +kernel
theorem dX8_mixHook_53 : decode cX8_mixHook 53 = .ok (.iconst 3, 1) := by decide +kernel
theorem dX8_mixHook_54 : decode cX8_mixHook 54 = .ok (.iload_n 1, 1) := by decide +kernel
theorem dX8_mixHook_55 : decode cX8_mixHook 55 = .ok (.iconst 3, 1) := by decide +kernel
theorem dX8_mixHook_56 : decode cX8_mixHook 56 = .ok (.invokevirtual 178, 3) := by decide +kernel
theorem dX8_mixHook_59 : decode cX8_mixHook 59 = .ok (.i2l, 1) := by decide +kernel
theorem dX8_mixHook_60 : decode cX8_mixHook 60 = .ok (.invokevirtual 274, 3) := by decide +kernel
theorem dX8_mixHook_63 : decode cX8_mixHook 63 = .ok (.return_, 1) := by decide +kernel
set_option maxRecDepth 20000 in
theorem ggX8_mixFloor_X8_hangingNow : GoodIn wsX8_mixFloor wsX8_hangingNow := goodIn_r _ [6, 7, 1, 8, 9, 10, 11, 5, 12, 13, 14, 15, 16, 17, 18, 19, 20, 21, 22, 23, 24, 25, 26, 27, 28, 29, 30, 31, 32, 33, 34, 35, 36, 37, 38, 39, 40, 41, 42, 43, 44, 45, 46, 47, 48, 49, 50, 51, 52, 53, 79, 80, 81, 82, 83, 84, 85, 86, 87, 88, 89, 90, 91, 92, 93, 94, 95, 96, 97, 98, 99, 100, 101, 102, 103, 104, 105, 106, 107, 108, 109, 110, 111, 112, 113, 114, 115, 116, 117, 118, 119, 120] (by decide +kernel) (by decide +kernel)
set_option maxRecDepth 20000 in
theorem gX8_mixFloor_X8_hangingNow : GoodIn wsX8_mixFloor (wsV RX8 201 RX8 yX8_hangingNow wsX8_hangingNow) := goodIn_app (goodIn_of _ (by decide +kernel)) ggX8_mixFloor_X8_hangingNow
set_option maxRecDepth 20000 in
theorem ggX8_mixFloor_X8_mix : GoodIn wsX8_mixFloor wsX8_mix := goodIn_r _ [57, 58, 59, 79, 80, 81, 82, 83, 84, 85, 86, 87, 88, 89, 90, 91, 92, 93, 94, 95, 96, 97, 98, 99, 100, 101, 102, 103, 104, 105, 106, 107, 108, 109, 110, 111, 112, 113, 114, 115, 116, 117, 118, 119, 120] (by decide +kernel) (by decide +kernel)
set_option maxRecDepth 20000 in
theorem gX8_mixFloor_X8_mix : GoodIn wsX8_mixFloor (wsV RX8 274 RX8 yX8_mix wsX8_mix) := goodIn_app (goodIn_of _ (by decide +kernel)) ggX8_mixFloor_X8_mix
set_option maxRecDepth 20000 in
theorem ggX8_mixFloor_X8_hungNow : GoodIn wsX8_mixFloor wsX8_hungNow := goodIn_r _ [63, 9, 10, 11, 5, 12, 1, 13, 14, 15, 16, 8, 64, 65, 66, 67, 68, 69, 70, 50, 51, 52, 53, 71, 72, 73, 74, 79, 80, 81, 82, 83, 84, 85, 86, 87, 88, 89, 90, 91, 92, 93, 94, 95, 96, 97, 98, 99, 100, 101, 102, 103, 104, 105, 106, 107, 108, 109, 110, 111, 112, 113, 114, 115, 116, 117, 118, 119, 120] (by decide +kernel) (by decide +kernel)
set_option maxRecDepth 20000 in
theorem gX8_mixFloor_X8_hungNow : GoodIn wsX8_mixFloor (wsV RX8 208 RX8 yX8_hungNow wsX8_hungNow) := goodIn_app (goodIn_of _ (by decide +kernel)) ggX8_mixFloor_X8_hungNow
set_option maxRecDepth 20000 in
theorem ggX8_mixFloor_X8_whereNow : GoodIn wsX8_mixFloor wsX8_whereNow := goodIn_r _ [78, 9, 10, 11, 5, 12, 1, 13, 14, 15, 16, 8, 64, 65, 66, 67, 68, 69, 70, 50, 51, 52, 53, 71, 72, 73, 74, 79, 80, 81, 82, 83, 84, 85, 86, 87, 88, 89, 90, 91, 92, 93, 94, 95, 96, 97, 98, 99, 100, 101, 102, 103, 104, 105, 106, 107, 108, 109, 110, 111, 112, 113, 114, 115, 116, 117, 118, 119, 120] (by decide +kernel) (by decide +kernel)
set_option maxRecDepth 20000 in
theorem gX8_mixFloor_X8_whereNow : GoodIn wsX8_mixFloor (wsV RX8 211 RX8 yX8_whereNow wsX8_whereNow) := goodIn_app (goodIn_of _ (by decide +kernel)) ggX8_mixFloor_X8_whereNow
theorem dX8_mixFloor_0 : decode cX8_mixFloor 0 = .ok (.aload_n 0, 1) := by decide +kernel
theorem dX8_mixFloor_1 : decode cX8_mixFloor 1 = .ok (.aload_n 0, 1) := by decide +kernel
theorem dX8_mixFloor_2 : decode cX8_mixFloor 2 = .ok (.iconst 0, 1) := by decide +kernel
theorem dX8_mixFloor_3 : decode cX8_mixFloor 3 = .ok (.invokevirtual 201, 3) := by decide +kernel
theorem dX8_mixFloor_6 : decode cX8_mixFloor 6 = .ok (.i2l, 1) := by decide +kernel
theorem dX8_mixFloor_7 : decode cX8_mixFloor 7 = .ok (.invokevirtual 274, 3) := by decide +kernel
theorem dX8_mixFloor_10 : decode cX8_mixFloor 10 = .ok (.aload_n 0, 1) := by decide +kernel
theorem dX8_mixFloor_11 : decode cX8_mixFloor 11 = .ok (.aload_n 0, 1) := by decide +kernel
theorem dX8_mixFloor_12 : decode cX8_mixFloor 12 = .ok (.iconst 1, 1) := by decide +kernel
theorem dX8_mixFloor_13 : decode cX8_mixFloor 13 = .ok (.invokevirtual 201, 3) := by decide +kernel
theorem dX8_mixFloor_16 : decode cX8_mixFloor 16 = .ok (.i2l, 1) := by decide +kernel
theorem dX8_mixFloor_17 : decode cX8_mixFloor 17 = .ok (.invokevirtual 274, 3) := by decide +kernel
theorem dX8_mixFloor_20 : decode cX8_mixFloor 20 = .ok (.bipush 10, 2) := by decide +kernel
theorem dX8_mixFloor_22 : decode cX8_mixFloor 22 = .ok (.istore_n 1, 1) := by decide +kernel
theorem dX8_mixFloor_23 : decode cX8_mixFloor 23 = .ok (.iload_n 1, 1) := by decide +kernel
theorem dX8_mixFloor_24 : decode cX8_mixFloor 24 = .ok (.bipush 16, 2) := by decide +kernel
theorem dX8_mixFloor_26 : decode cX8_mixFloor 26 = .ok (.if_icmp .ge 19, 3) := by decide +kernel
theorem dX8_mixFloor_29 : decode cX8_mixFloor 29 = .ok (.aload_n 0, 1) := by decide +kernel
theorem dX8_mixFloor_30 : decode cX8_mixFloor 30 = .ok (.aload_n 0, 1) := by decide +kernel
theorem dX8_mixFloor_31 : decode cX8_mixFloor 31 = .ok (.iload_n 1, 1) := by decide +kernel
theorem dX8_mixFloor_32 : decode cX8_mixFloor 32 = .ok (.invokevirtual 201, 3) := by decide +kernel
theorem dX8_mixFloor_35 : decode cX8_mixFloor 35 = .ok (.i2l, 1) := by decide +kernel
theorem dX8_mixFloor_36 : decode cX8_mixFloor 36 = .ok (.invokevirtual 274, 3) := by decide +kernel
theorem dX8_mixFloor_39 : decode cX8_mixFloor 39 = .ok (.iinc 1 1, 3) := by decide +kernel
theorem dX8_mixFloor_42 : decode cX8_mixFloor 42 = .ok (.goto (-19), 3) := by decide +kernel
theorem dX8_mixFloor_45 : decode cX8_mixFloor 45 = .ok (.aload_n 0, 1) := by decide +kernel
theorem dX8_mixFloor_46 : decode cX8_mixFloor 46 = .ok (.aload_n 0, 1) := by decide +kernel
theorem dX8_mixFloor_47 : decode cX8_mixFloor 47 = .ok (.invokevirtual 208, 3) := by decide +kernel
theorem dX8_mixFloor_50 : decode cX8_mixFloor 50 = .ok (.i2l, 1) := by decide +kernel
theorem dX8_mixFloor_51 : decode cX8_mixFloor 51 = .ok (.invokevirtual 274, 3) := by decide +kernel
theorem dX8_mixFloor_54 : decode cX8_mixFloor 54 = .ok (.iconst 0, 1) := by decide +kernel
theorem dX8_mixFloor_55 : decode cX8_mixFloor 55 = .ok (.istore_n 1, 1) := by decide +kernel
theorem dX8_mixFloor_56 : decode cX8_mixFloor 56 = .ok (.iload_n 1, 1) := by decide +kernel
theorem dX8_mixFloor_57 : decode cX8_mixFloor 57 = .ok (.aload_n 0, 1) := by decide +kernel
theorem dX8_mixFloor_58 : decode cX8_mixFloor 58 = .ok (.getfield 109, 3) := by decide +kernel
theorem dX8_mixFloor_61 : decode cX8_mixFloor 61 = .ok (.if_icmp .ge 19, 3) := by decide +kernel
theorem dX8_mixFloor_64 : decode cX8_mixFloor 64 = .ok (.aload_n 0, 1) := by decide +kernel
theorem dX8_mixFloor_65 : decode cX8_mixFloor 65 = .ok (.aload_n 0, 1) := by decide +kernel
theorem dX8_mixFloor_66 : decode cX8_mixFloor 66 = .ok (.iload_n 1, 1) := by decide +kernel
theorem dX8_mixFloor_67 : decode cX8_mixFloor 67 = .ok (.invokevirtual 211, 3) := by decide +kernel
theorem dX8_mixFloor_70 : decode cX8_mixFloor 70 = .ok (.i2l, 1) := by decide +kernel
theorem dX8_mixFloor_71 : decode cX8_mixFloor 71 = .ok (.invokevirtual 274, 3) := by decide +kernel
theorem dX8_mixFloor_74 : decode cX8_mixFloor 74 = .ok (.iinc 1 1, 3) := by decide +kernel
theorem dX8_mixFloor_77 : decode cX8_mixFloor 77 = .ok (.goto (-21), 3) := by decide +kernel
theorem dX8_mixFloor_80 : decode cX8_mixFloor 80 = .ok (.return_, 1) := by decide +kernel
set_option maxRecDepth 20000 in
theorem ggX8_digest_X8_mixHook : GoodIn wsX8_digest wsX8_mixHook := goodIn_r _ [11, 12, 13, 14, 10, 15, 16, 17, 18, 19, 20, 21, 22, 23, 24, 25, 26, 27, 2, 28, 29, 30, 31, 32, 33, 34, 35, 36, 37, 38, 39, 40, 41, 42, 43, 44, 45, 46, 3, 47, 48, 49, 50, 51, 52, 53, 54, 55, 56, 57, 58, 59, 60, 61, 62, 63, 64, 65, 66, 132, 133, 134, 135, 136, 137, 138, 139, 140, 141, 142, 143, 144, 145, 146, 147, 148, 149, 150, 151, 152, 153, 154, 155, 156, 157, 158, 159, 160, 161, 162, 163, 164, 165, 166, 167, 168, 169, 170, 171, 172, 173] (by decide +kernel) (by decide +kernel)
set_option maxRecDepth 20000 in
theorem gX8_digest_X8_mixHook : GoodIn wsX8_digest (wsV RX8 280 RX8 yX8_mixHook wsX8_mixHook) := goodIn_app (goodIn_of _ (by decide +kernel)) ggX8_digest_X8_mixHook
set_option maxRecDepth 20000 in
theorem ggX8_digest_X8_beltNow : GoodIn wsX8_digest wsX8_beltNow := goodIn_r _ [70, 71, 72, 40, 41, 10, 42, 132, 133, 134, 135, 136, 137, 138, 139, 140, 141, 142, 143, 144, 145, 146, 147, 148, 149, 150, 151, 152, 153, 154, 155, 156, 157, 158, 159, 160, 161, 162, 163, 164, 165, 166, 167, 168, 169, 170, 171, 172, 173] (by decide +kernel) (by decide +kernel)
set_option maxRecDepth 20000 in
theorem gX8_digest_X8_beltNow : GoodIn wsX8_digest (wsV RX8 145 RX8 yX8_beltNow wsX8_beltNow) := goodIn_app (goodIn_of _ (by decide +kernel)) ggX8_digest_X8_beltNow
set_option maxRecDepth 20000 in
theorem ggX8_digest_X8_mix : GoodIn wsX8_digest wsX8_mix := goodIn_r _ [26, 27, 2, 132, 133, 134, 135, 136, 137, 138, 139, 140, 141, 142, 143, 144, 145, 146, 147, 148, 149, 150, 151, 152, 153, 154, 155, 156, 157, 158, 159, 160, 161, 162, 163, 164, 165, 166, 167, 168, 169, 170, 171, 172, 173] (by decide +kernel) (by decide +kernel)
set_option maxRecDepth 20000 in
theorem gX8_digest_X8_mix : GoodIn wsX8_digest (wsV RX8 274 RX8 yX8_mix wsX8_mix) := goodIn_app (goodIn_of _ (by decide +kernel)) ggX8_digest_X8_mix
set_option maxRecDepth 20000 in
theorem ggX8_digest_X8_mixFloor : GoodIn wsX8_digest wsX8_mixFloor := goodIn_r _ [76, 3, 77, 78, 79, 10, 80, 81, 16, 82, 83, 84, 85, 86, 87, 88, 89, 90, 91, 92, 93, 22, 94, 95, 96, 97, 36, 37, 38, 39, 17, 40, 41, 42, 51, 52, 53, 54, 59, 60, 61, 62, 63, 64, 65, 66, 98, 99, 100, 101, 102, 103, 104, 105, 23, 24, 25, 26, 27, 2, 106, 107, 108, 109, 110, 111, 112, 113, 114, 115, 116, 43, 44, 45, 46, 117, 118, 119, 120, 132, 133, 134, 135, 136, 137, 138, 139, 140, 141, 142, 143, 144, 145, 146, 147, 148, 149, 150, 151, 152, 153, 154, 155, 156, 157, 158, 159, 160, 161, 162, 163, 164, 165, 166, 167, 168, 169, 170, 171, 172, 173] (by decide +kernel) (by decide +kernel)
set_option maxRecDepth 20000 in
theorem gX8_digest_X8_mixFloor : GoodIn wsX8_digest (wsV RX8 283 RX8 yX8_mixFloor wsX8_mixFloor) := goodIn_app (goodIn_of _ (by decide +kernel)) ggX8_digest_X8_mixFloor
set_option maxRecDepth 20000 in
theorem ggX8_digest_X8_howMany : GoodIn wsX8_digest wsX8_howMany := goodIn_r _ [124, 3, 4, 125, 126, 114, 5, 127, 128, 129, 130, 10, 131, 20, 19, 132, 133, 134, 135, 136, 137, 138, 139, 140, 141, 142, 143, 144, 145, 146, 147, 148, 149, 150, 151, 152, 153, 154, 155, 156, 157, 158, 159, 160, 161, 162, 163, 164, 165, 166, 167, 168, 169, 170, 171, 172, 173] (by decide +kernel) (by decide +kernel)
set_option maxRecDepth 20000 in
theorem gX8_digest_X8_howMany : GoodIn wsX8_digest (wsV RX8 266 RX8 yX8_howMany wsX8_howMany) := goodIn_app (goodIn_of _ (by decide +kernel)) ggX8_digest_X8_howMany
theorem dX8_digest_0 : decode cX8_digest 0 = .ok (.aload_n 0, 1) := by decide +kernel
end
section
theorem dX8_digest_1 : decode cX8_digest 1 = .ok (.ldc2_w 278, 3) := by decide +kernel
theorem dX8_digest_4 : decode cX8_digest 4 = .ok (.putfield 271, 3) := by decide +kernel
theorem dX8_digest_7 : decode cX8_digest 7 = .ok (.iconst 0, 1) := by decide +kernel
theorem dX8_digest_8 : decode cX8_digest 8 = .ok (.istore_n 1, 1) := by decide +kernel
theorem dX8_digest_9 : decode cX8_digest 9 = .ok (.iload_n 1, 1) := by decide +kernel
theorem dX8_digest_10 : decode cX8_digest 10 = .ok (.aload_n 0, 1) := by decide +kernel
theorem dX8_digest_11 : decode cX8_digest 11 = .ok (.getfield 109, 3) := by decide +kernel
theorem dX8_digest_14 : decode cX8_digest 14 = .ok (.if_icmp .ge 14, 3) := by decide +kernel
theorem dX8_digest_17 : decode cX8_digest 17 = .ok (.aload_n 0, 1) := by decide +kernel
theorem dX8_digest_18 : decode cX8_digest 18 = .ok (.iload_n 1, 1) := by decide +kernel
theorem dX8_digest_19 : decode cX8_digest 19 = .ok (.invokevirtual 280, 3) := by decide +kernel
theorem dX8_digest_22 : decode cX8_digest 22 = .ok (.iinc 1 1, 3) := by decide +kernel
theorem dX8_digest_25 : decode cX8_digest 25 = .ok (.goto (-16), 3) := by decide +kernel
theorem dX8_digest_28 : decode cX8_digest 28 = .ok (.iconst 0, 1) := by decide +kernel
theorem dX8_digest_29 : decode cX8_digest 29 = .ok (.istore_n 1, 1) := by decide +kernel
theorem dX8_digest_30 : decode cX8_digest 30 = .ok (.iload_n 1, 1) := by decide +kernel
theorem dX8_digest_31 : decode cX8_digest 31 = .ok (.aload_n 0, 1) := by decide +kernel
theorem dX8_digest_32 : decode cX8_digest 32 = .ok (.getfield 118, 3) := by decide +kernel
theorem dX8_digest_35 : decode cX8_digest 35 = .ok (.if_icmp .ge 33, 3) := by decide +kernel
theorem dX8_digest_38 : decode cX8_digest 38 = .ok (.iconst 0, 1) := by decide +kernel
theorem dX8_digest_39 : decode cX8_digest 39 = .ok (.istore_n 2, 1) := by decide +kernel
theorem dX8_digest_40 : decode cX8_digest 40 = .ok (.iload_n 2, 1) := by decide +kernel
theorem dX8_digest_41 : decode cX8_digest 41 = .ok (.iconst 3, 1) := by decide +kernel
theorem dX8_digest_42 : decode cX8_digest 42 = .ok (.if_icmp .ge 20, 3) := by decide +kernel
theorem dX8_digest_45 : decode cX8_digest 45 = .ok (.aload_n 0, 1) := by decide +kernel
theorem dX8_digest_46 : decode cX8_digest 46 = .ok (.aload_n 0, 1) := by decide +kernel
theorem dX8_digest_47 : decode cX8_digest 47 = .ok (.iload_n 1, 1) := by decide +kernel
theorem dX8_digest_48 : decode cX8_digest 48 = .ok (.iload_n 2, 1) := by decide +kernel
theorem dX8_digest_49 : decode cX8_digest 49 = .ok (.invokevirtual 145, 3) := by decide +kernel
theorem dX8_digest_52 : decode cX8_digest 52 = .ok (.i2l, 1) := by decide +kernel
theorem dX8_digest_53 : decode cX8_digest 53 = .ok (.invokevirtual 274, 3) := by decide +kernel
theorem dX8_digest_56 : decode cX8_digest 56 = .ok (.iinc 2 1, 3) := by decide +kernel
theorem dX8_digest_59 : decode cX8_digest 59 = .ok (.goto (-19), 3) := by decide +kernel
theorem dX8_digest_62 : decode cX8_digest 62 = .ok (.iinc 1 1, 3) := by decide +kernel
theorem dX8_digest_65 : decode cX8_digest 65 = .ok (.goto (-35), 3) := by decide +kernel
theorem dX8_digest_68 : decode cX8_digest 68 = .ok (.aload_n 0, 1) := by decide +kernel
theorem dX8_digest_69 : decode cX8_digest 69 = .ok (.getfield 109, 3) := by decide +kernel
theorem dX8_digest_72 : decode cX8_digest 72 = .ok (.ifCond .le 7, 3) := by decide +kernel
theorem dX8_digest_75 : decode cX8_digest 75 = .ok (.aload_n 0, 1) := by decide +kernel
theorem dX8_digest_76 : decode cX8_digest 76 = .ok (.invokevirtual 283, 3) := by decide +kernel
theorem dX8_digest_79 : decode cX8_digest 79 = .ok (.iconst 0, 1) := by decide +kernel
theorem dX8_digest_80 : decode cX8_digest 80 = .ok (.istore_n 1, 1) := by decide +kernel
theorem dX8_digest_81 : decode cX8_digest 81 = .ok (.iload_n 1, 1) := by decide +kernel
theorem dX8_digest_82 : decode cX8_digest 82 = .ok (.aload_n 0, 1) := by decide +kernel
theorem dX8_digest_83 : decode cX8_digest 83 = .ok (.getfield 81, 3) := by decide +kernel
theorem dX8_digest_86 : decode cX8_digest 86 = .ok (.if_icmp .ge 20, 3) := by decide +kernel
theorem dX8_digest_89 : decode cX8_digest 89 = .ok (.aload_n 0, 1) := by decide +kernel
theorem dX8_digest_90 : decode cX8_digest 90 = .ok (.aload_n 0, 1) := by decide +kernel
theorem dX8_digest_91 : decode cX8_digest 91 = .ok (.getfield 46, 3) := by decide +kernel
theorem dX8_digest_94 : decode cX8_digest 94 = .ok (.iload_n 1, 1) := by decide +kernel
theorem dX8_digest_95 : decode cX8_digest 95 = .ok (.baload, 1) := by decide +kernel
theorem dX8_digest_96 : decode cX8_digest 96 = .ok (.i2l, 1) := by decide +kernel
theorem dX8_digest_97 : decode cX8_digest 97 = .ok (.invokevirtual 274, 3) := by decide +kernel
theorem dX8_digest_100 : decode cX8_digest 100 = .ok (.iinc 1 1, 3) := by decide +kernel
theorem dX8_digest_103 : decode cX8_digest 103 = .ok (.goto (-22), 3) := by decide +kernel
theorem dX8_digest_106 : decode cX8_digest 106 = .ok (.iconst 0, 1) := by decide +kernel
theorem dX8_digest_107 : decode cX8_digest 107 = .ok (.istore_n 1, 1) := by decide +kernel
theorem dX8_digest_108 : decode cX8_digest 108 = .ok (.iload_n 1, 1) := by decide +kernel
theorem dX8_digest_109 : decode cX8_digest 109 = .ok (.bipush 9, 2) := by decide +kernel
theorem dX8_digest_111 : decode cX8_digest 111 = .ok (.if_icmp .ge 19, 3) := by decide +kernel
theorem dX8_digest_114 : decode cX8_digest 114 = .ok (.aload_n 0, 1) := by decide +kernel
theorem dX8_digest_115 : decode cX8_digest 115 = .ok (.aload_n 0, 1) := by decide +kernel
theorem dX8_digest_116 : decode cX8_digest 116 = .ok (.iload_n 1, 1) := by decide +kernel
theorem dX8_digest_117 : decode cX8_digest 117 = .ok (.invokevirtual 266, 3) := by decide +kernel
theorem dX8_digest_120 : decode cX8_digest 120 = .ok (.i2l, 1) := by decide +kernel
theorem dX8_digest_121 : decode cX8_digest 121 = .ok (.invokevirtual 274, 3) := by decide +kernel
theorem dX8_digest_124 : decode cX8_digest 124 = .ok (.iinc 1 1, 3) := by decide +kernel
theorem dX8_digest_127 : decode cX8_digest 127 = .ok (.goto (-19), 3) := by decide +kernel
theorem dX8_digest_130 : decode cX8_digest 130 = .ok (.aload_n 0, 1) := by decide +kernel
theorem dX8_digest_131 : decode cX8_digest 131 = .ok (.getfield 271, 3) := by decide +kernel
theorem dX8_digest_134 : decode cX8_digest 134 = .ok (.lreturn, 1) := by decide +kernel
theorem dJ6_bitCount_0f7a4_0 : decode cJ6_bitCount_0f7a4 0 = .ok (.iload_n 0, 1) := by decide +kernel
theorem dJ6_bitCount_0f7a4_1 : decode cJ6_bitCount_0f7a4 1 = .ok (.iload_n 0, 1) := by decide +kernel
theorem dJ6_bitCount_0f7a4_2 : decode cJ6_bitCount_0f7a4 2 = .ok (.iconst 1, 1) := by decide +kernel
theorem dJ6_bitCount_0f7a4_3 : decode cJ6_bitCount_0f7a4 3 = .ok (.iushr, 1) := by decide +kernel
theorem dJ6_bitCount_0f7a4_4 : decode cJ6_bitCount_0f7a4 4 = .ok (.ldc_w 265, 3) := by decide +kernel
theorem dJ6_bitCount_0f7a4_7 : decode cJ6_bitCount_0f7a4 7 = .ok (.iand, 1) := by decide +kernel
theorem dJ6_bitCount_0f7a4_8 : decode cJ6_bitCount_0f7a4 8 = .ok (.isub, 1) := by decide +kernel
theorem dJ6_bitCount_0f7a4_9 : decode cJ6_bitCount_0f7a4 9 = .ok (.istore_n 0, 1) := by decide +kernel
theorem dJ6_bitCount_0f7a4_10 : decode cJ6_bitCount_0f7a4 10 = .ok (.iload_n 0, 1) := by decide +kernel
theorem dJ6_bitCount_0f7a4_11 : decode cJ6_bitCount_0f7a4 11 = .ok (.ldc_w 266, 3) := by decide +kernel
theorem dJ6_bitCount_0f7a4_14 : decode cJ6_bitCount_0f7a4 14 = .ok (.iand, 1) := by decide +kernel
theorem dJ6_bitCount_0f7a4_15 : decode cJ6_bitCount_0f7a4 15 = .ok (.iload_n 0, 1) := by decide +kernel
theorem dJ6_bitCount_0f7a4_16 : decode cJ6_bitCount_0f7a4 16 = .ok (.iconst 2, 1) := by decide +kernel
theorem dJ6_bitCount_0f7a4_17 : decode cJ6_bitCount_0f7a4 17 = .ok (.iushr, 1) := by decide +kernel
theorem dJ6_bitCount_0f7a4_18 : decode cJ6_bitCount_0f7a4 18 = .ok (.ldc_w 266, 3) := by decide +kernel
theorem dJ6_bitCount_0f7a4_21 : decode cJ6_bitCount_0f7a4 21 = .ok (.iand, 1) := by decide +kernel
theorem dJ6_bitCount_0f7a4_22 : decode cJ6_bitCount_0f7a4 22 = .ok (.iadd, 1) := by decide +kernel
theorem dJ6_bitCount_0f7a4_23 : decode cJ6_bitCount_0f7a4 23 = .ok (.istore_n 0, 1) := by decide +kernel
theorem dJ6_bitCount_0f7a4_24 : decode cJ6_bitCount_0f7a4 24 = .ok (.iload_n 0, 1) := by decide +kernel
theorem dJ6_bitCount_0f7a4_25 : decode cJ6_bitCount_0f7a4 25 = .ok (.iload_n 0, 1) := by decide +kernel
theorem dJ6_bitCount_0f7a4_26 : decode cJ6_bitCount_0f7a4 26 = .ok (.iconst 4, 1) := by decide +kernel
theorem dJ6_bitCount_0f7a4_27 : decode cJ6_bitCount_0f7a4 27 = .ok (.iushr, 1) := by decide +kernel
theorem dJ6_bitCount_0f7a4_28 : decode cJ6_bitCount_0f7a4 28 = .ok (.iadd, 1) := by decide +kernel
theorem dJ6_bitCount_0f7a4_29 : decode cJ6_bitCount_0f7a4 29 = .ok (.ldc_w 267, 3) := by decide +kernel
theorem dJ6_bitCount_0f7a4_32 : decode cJ6_bitCount_0f7a4 32 = .ok (.iand, 1) := by decide +kernel
theorem dJ6_bitCount_0f7a4_33 : decode cJ6_bitCount_0f7a4 33 = .ok (.istore_n 0, 1) := by decide +kernel
theorem dJ6_bitCount_0f7a4_34 : decode cJ6_bitCount_0f7a4 34 = .ok (.iload_n 0, 1) := by decide +kernel
theorem dJ6_bitCount_0f7a4_35 : decode cJ6_bitCount_0f7a4 35 = .ok (.iload_n 0, 1) := by decide +kernel
theorem dJ6_bitCount_0f7a4_36 : decode cJ6_bitCount_0f7a4 36 = .ok (.bipush 8, 2) := by decide +kernel
theorem dJ6_bitCount_0f7a4_38 : decode cJ6_bitCount_0f7a4 38 = .ok (.iushr, 1) := by decide +kernel
theorem dJ6_bitCount_0f7a4_39 : decode cJ6_bitCount_0f7a4 39 = .ok (.iadd, 1) := by decide +kernel
theorem dJ6_bitCount_0f7a4_40 : decode cJ6_bitCount_0f7a4 40 = .ok (.istore_n 0, 1) := by decide +kernel
theorem dJ6_bitCount_0f7a4_41 : decode cJ6_bitCount_0f7a4 41 = .ok (.iload_n 0, 1) := by decide +kernel
theorem dJ6_bitCount_0f7a4_42 : decode cJ6_bitCount_0f7a4 42 = .ok (.iload_n 0, 1) := by decide +kernel
theorem dJ6_bitCount_0f7a4_43 : decode cJ6_bitCount_0f7a4 43 = .ok (.bipush 16, 2) := by decide +kernel
theorem dJ6_bitCount_0f7a4_45 : decode cJ6_bitCount_0f7a4 45 = .ok (.iushr, 1) := by decide +kernel
theorem dJ6_bitCount_0f7a4_46 : decode cJ6_bitCount_0f7a4 46 = .ok (.iadd, 1) := by decide +kernel
theorem dJ6_bitCount_0f7a4_47 : decode cJ6_bitCount_0f7a4 47 = .ok (.istore_n 0, 1) := by decide +kernel
theorem dJ6_bitCount_0f7a4_48 : decode cJ6_bitCount_0f7a4 48 = .ok (.iload_n 0, 1) := by decide +kernel
theorem dJ6_bitCount_0f7a4_49 : decode cJ6_bitCount_0f7a4 49 = .ok (.bipush 63, 2) := by decide +kernel
theorem dJ6_bitCount_0f7a4_51 : decode cJ6_bitCount_0f7a4 51 = .ok (.iand, 1) := by decide +kernel
theorem dJ6_bitCount_0f7a4_52 : decode cJ6_bitCount_0f7a4 52 = .ok (.ireturn, 1) := by decide +kernel
theorem dJ9_max_7cf53_0 : decode cJ9_max_7cf53 0 = .ok (.iload_n 0, 1) := by decide +kernel
theorem dJ9_max_7cf53_1 : decode cJ9_max_7cf53 1 = .ok (.iload_n 1, 1) := by decide +kernel
theorem dJ9_max_7cf53_2 : decode cJ9_max_7cf53 2 = .ok (.if_icmp .lt 7, 3) := by decide +kernel
theorem dJ9_max_7cf53_5 : decode cJ9_max_7cf53 5 = .ok (.iload_n 0, 1) := by decide +kernel
theorem dJ9_max_7cf53_6 : decode cJ9_max_7cf53 6 = .ok (.goto 4, 3) := by decide +kernel
theorem dJ9_max_7cf53_9 : decode cJ9_max_7cf53 9 = .ok (.iload_n 1, 1) := by decide +kernel
theorem dJ9_max_7cf53_10 : decode cJ9_max_7cf53 10 = .ok (.ireturn, 1) := by decide +kernel
theorem dJ9_min_7cf53_0 : decode cJ9_min_7cf53 0 = .ok (.iload_n 0, 1) := by decide +kernel
theorem dJ9_min_7cf53_1 : decode cJ9_min_7cf53 1 = .ok (.iload_n 1, 1) := by decide +kernel
theorem dJ9_min_7cf53_2 : decode cJ9_min_7cf53 2 = .ok (.if_icmp .gt 7, 3) := by decide +kernel
theorem dJ9_min_7cf53_5 : decode cJ9_min_7cf53 5 = .ok (.iload_n 0, 1) := by decide +kernel
theorem dJ9_min_7cf53_6 : decode cJ9_min_7cf53 6 = .ok (.goto 4, 3) := by decide +kernel
theorem dJ9_min_7cf53_9 : decode cJ9_min_7cf53 9 = .ok (.iload_n 1, 1) := by decide +kernel
theorem dJ9_min_7cf53_10 : decode cJ9_min_7cf53 10 = .ok (.ireturn, 1) := by decide +kernel
theorem dJ7_fill_53178_0 : decode cJ7_fill_53178 0 = .ok (.iconst 0, 1) := by decide +kernel
theorem dJ7_fill_53178_1 : decode cJ7_fill_53178 1 = .ok (.istore_n 2, 1) := by decide +kernel
theorem dJ7_fill_53178_2 : decode cJ7_fill_53178 2 = .ok (.aload_n 0, 1) := by decide +kernel
theorem dJ7_fill_53178_3 : decode cJ7_fill_53178 3 = .ok (.arraylength, 1) := by decide +kernel
theorem dJ7_fill_53178_4 : decode cJ7_fill_53178 4 = .ok (.istore_n 3, 1) := by decide +kernel
theorem dJ7_fill_53178_5 : decode cJ7_fill_53178 5 = .ok (.iload_n 2, 1) := by decide +kernel
theorem dJ7_fill_53178_6 : decode cJ7_fill_53178 6 = .ok (.iload_n 3, 1) := by decide +kernel
theorem dJ7_fill_53178_7 : decode cJ7_fill_53178 7 = .ok (.if_icmp .ge 13, 3) := by decide +kernel
theorem dJ7_fill_53178_10 : decode cJ7_fill_53178 10 = .ok (.aload_n 0, 1) := by decide +kernel
theorem dJ7_fill_53178_11 : decode cJ7_fill_53178 11 = .ok (.iload_n 2, 1) := by decide +kernel
theorem dJ7_fill_53178_12 : decode cJ7_fill_53178 12 = .ok (.iload_n 1, 1) := by decide +kernel
theorem dJ7_fill_53178_13 : decode cJ7_fill_53178 13 = .ok (.iastore, 1) := by decide +kernel
theorem dJ7_fill_53178_14 : decode cJ7_fill_53178 14 = .ok (.iinc 2 1, 3) := by decide +kernel
theorem dJ7_fill_53178_17 : decode cJ7_fill_53178 17 = .ok (.goto (-12), 3) := by decide +kernel
theorem dJ7_fill_53178_20 : decode cJ7_fill_53178 20 = .ok (.return_, 1) := by decide +kernel
set_option maxRecDepth 20000 in
theorem ggL_law_X7_init : GoodIn wsL_law wsX7_init := goodIn_r _ [8, 9, 10, 11, 12, 13, 14, 15, 16, 17, 18, 19, 20, 21, 22, 23, 24, 25, 26, 27, 28, 29, 30, 31, 32, 33, 34, 35, 36, 37, 38, 39, 40, 41, 42, 43, 44, 45, 46, 47, 48, 49, 50, 51, 52, 53, 54, 55, 56, 57, 58, 59, 60, 61, 62, 63, 64, 65, 66, 67, 68, 69, 70, 71, 72, 73, 74, 75, 76, 77, 78, 79, 80, 81, 82, 807, 808, 756, 757, 758, 759, 760, 761, 762, 763, 764, 809, 810, 811, 812, 813, 814, 815, 816, 817, 818, 819, 820, 821, 822, 823, 824, 825, 826, 827, 828, 829, 830, 831, 832, 833, 834, 835, 836, 837] (by decide +kernel) (by decide +kernel)
set_option maxRecDepth 20000 in
theorem gL_law_X7_init : GoodIn wsL_law (wsX7_init) := ggL_law_X7_init
set_option maxRecDepth 20000 in
theorem ggL_law_X8_init : GoodIn wsL_law wsX8_init := goodIn_r _ [85, 86, 10, 11, 40, 87, 88, 89, 90, 91, 92, 93, 94, 95, 96, 97, 98, 99, 100, 101, 102, 103, 104, 105, 106, 107, 108, 109, 765, 766, 767, 768, 769, 770, 771, 772, 773, 774, 775, 776, 777, 778, 779, 780, 781, 782, 783, 784, 785, 786, 787, 788, 789, 790, 791, 792, 793, 794, 795, 796, 797, 798, 799, 800, 801, 802, 803, 804, 805, 806] (by decide +kernel) (by decide +kernel)
set_option maxRecDepth 20000 in
theorem gL_law_X8_init : GoodIn wsL_law (wsX8_init) := ggL_law_X8_init
set_option maxRecDepth 20000 in
theorem ggL_law_X7_letter : GoodIn wsL_law wsX7_letter := goodIn_r _ [113, 15, 114, 115, 116, 117, 14, 118, 119, 41, 756, 757, 758, 759, 760, 761, 762, 763, 764, 807, 808] (by decide +kernel) (by decide +kernel)
set_option maxRecDepth 20000 in
theorem gL_law_X7_letter : GoodIn wsL_law (wsV RL 13 RX7 yX7_letter wsX7_letter) := goodIn_app (goodIn_of _ (by decide +kernel)) ggL_law_X7_letter
set_option maxRecDepth 20000 in
theorem ggL_law_X8_letter : GoodIn wsL_law wsX8_letter := goodIn_r _ [123, 124, 100, 125, 126, 5, 127, 765, 766, 767, 768, 769, 770, 771, 772, 773, 774, 775, 776, 777, 778, 779, 780, 781, 782, 783, 784, 785, 786, 787, 788, 789, 790, 791, 792, 793, 794, 795, 796, 797, 798, 799, 800, 801, 802, 803, 804, 805, 806] (by decide +kernel) (by decide +kernel)
set_option maxRecDepth 20000 in
theorem gL_law_X8_letter : GoodIn wsL_law (wsV RL 17 RX8 yX8_letter wsX8_letter) := goodIn_app (goodIn_of _ (by decide +kernel)) ggL_law_X8_letter
set_option maxRecDepth 20000 in
theorem ggL_law_X7_blank : GoodIn wsL_law wsX7_blank := goodIn_r _ [131, 15, 114, 756, 757, 758, 759, 760, 761, 762, 763, 764, 807, 808] (by decide +kernel) (by decide +kernel)
set_option maxRecDepth 20000 in
theorem gL_law_X7_blank : GoodIn wsL_law (wsV RL 18 RX7 yX7_blank wsX7_blank) := goodIn_app (goodIn_of _ (by decide +kernel)) ggL_law_X7_blank
set_option maxRecDepth 20000 in
theorem ggL_law_X8_blank : GoodIn wsL_law wsX8_blank := goodIn_r _ [135, 124, 765, 766, 767, 768, 769, 770, 771, 772, 773, 774, 775, 776, 777, 778, 779, 780, 781, 782, 783, 784, 785, 786, 787, 788, 789, 790, 791, 792, 793, 794, 795, 796, 797, 798, 799, 800, 801, 802, 803, 804, 805, 806] (by decide +kernel) (by decide +kernel)
set_option maxRecDepth 20000 in
theorem gL_law_X8_blank : GoodIn wsL_law (wsV RL 22 RX8 yX8_blank wsX8_blank) := goodIn_app (goodIn_of _ (by decide +kernel)) ggL_law_X8_blank
set_option maxRecDepth 20000 in
theorem ggL_law_X7_fault : GoodIn wsL_law wsX7_fault := goodIn_r _ [139, 15, 140, 141, 142, 14, 143, 119, 144, 145, 146, 147, 41, 148, 149, 150, 756, 757, 758, 759, 760, 761, 762, 763, 764, 807, 808] (by decide +kernel) (by decide +kernel)
set_option maxRecDepth 20000 in
theorem gL_law_X7_fault : GoodIn wsL_law (wsV RL 23 RX7 yX7_fault wsX7_fault) := goodIn_app (goodIn_of _ (by decide +kernel)) ggL_law_X7_fault
set_option maxRecDepth 20000 in
theorem ggL_law_X8_fault : GoodIn wsL_law wsX8_fault := goodIn_r _ [154, 155, 156, 157, 158, 5, 159, 160, 161, 162, 163, 164, 165, 124, 100, 125, 126, 127, 166, 167, 168, 169, 170, 171, 172, 173, 765, 766, 767, 768, 769, 770, 771, 772, 773, 774, 775, 776, 777, 778, 779, 780, 781, 782, 783, 784, 785, 786, 787, 788, 789, 790, 791, 792, 793, 794, 795, 796, 797, 798, 799, 800, 801, 802, 803, 804, 805, 806] (by decide +kernel) (by decide +kernel)
set_option maxRecDepth 20000 in
theorem gL_law_X8_fault : GoodIn wsL_law (wsV RL 26 RX8 yX8_fault wsX8_fault) := goodIn_app (goodIn_of _ (by decide +kernel)) ggL_law_X8_fault
set_option maxRecDepth 20000 in
theorem ggL_law_X7_floor : GoodIn wsL_law wsX7_floor := goodIn_r _ [177, 15, 19, 114, 23, 28, 32, 178, 179, 180, 181, 182, 183, 184, 14, 185, 119, 186, 187, 188, 189, 144, 145, 146, 147, 41, 190, 141, 142, 143, 148, 149, 150, 191, 192, 193, 18, 194, 195, 196, 197, 198, 199, 45, 46, 47, 200, 201, 202, 203, 204, 205, 206, 207, 22, 208, 52, 54, 209, 57, 210, 211, 212, 213, 214, 215, 27, 216, 217, 218, 71, 219, 72, 220, 70, 221, 2, 222, 223, 224, 225, 226, 227, 228, 229, 230, 231, 232, 233, 234, 235, 236, 237, 238, 239, 240, 241, 242, 243, 244, 245, 246, 247, 248, 249, 250, 251, 252, 253, 254, 255, 256, 257, 258, 756, 757, 758, 759, 760, 761, 762, 763, 764, 807, 808, 825, 826, 827, 828, 829, 809, 810, 811, 812, 813, 814, 815, 816, 817, 818, 819, 820, 834, 835, 836, 837, 821, 822, 823, 824] (by decide +kernel) (by decide +kernel)
set_option maxRecDepth 20000 in
theorem gL_law_X7_floor : GoodIn wsL_law (wsV RL 27 RX7 yX7_floor wsX7_floor) := goodIn_app (goodIn_of _ (by decide +kernel)) ggL_law_X7_floor
set_option maxRecDepth 20000 in
theorem ggL_law_X8_floor : GoodIn wsL_law wsX8_floor := goodIn_r _ [262, 161, 160, 263, 87, 100, 88, 89, 90, 264, 265, 266, 267, 268, 124, 156, 157, 158, 5, 159, 155, 162, 163, 164, 165, 125, 126, 127, 166, 167, 168, 169, 170, 171, 172, 173, 269, 270, 271, 272, 91, 92, 93, 94, 765, 766, 767, 768, 769, 770, 771, 772, 773, 774, 775, 776, 777, 778, 779, 780, 781, 782, 783, 784, 785, 786, 787, 788, 789, 790, 791, 792, 793, 794, 795, 796, 797, 798, 799, 800, 801, 802, 803, 804, 805, 806] (by decide +kernel) (by decide +kernel)
set_option maxRecDepth 20000 in
theorem gL_law_X8_floor : GoodIn wsL_law (wsV RL 30 RX8 yX8_floor wsX8_floor) := goodIn_app (goodIn_of _ (by decide +kernel)) ggL_law_X8_floor
set_option maxRecDepth 20000 in
theorem ggL_law_X7_hook : GoodIn wsL_law wsX7_hook := goodIn_r _ [276, 23, 277, 278, 19, 279, 280, 281, 282, 283, 284, 2, 285, 181, 286, 287, 288, 56, 289, 290, 64, 291, 292, 293, 294, 63, 295, 256, 257, 18, 258, 199, 47, 756, 757, 758, 759, 760, 761, 762, 763, 764, 813, 814, 815, 816, 817, 818, 819, 820, 809, 810, 811, 812, 834, 835, 836, 837] (by decide +kernel) (by decide +kernel)
set_option maxRecDepth 20000 in
theorem gL_law_X7_hook : GoodIn wsL_law (wsV RL 31 RX7 yX7_hook wsX7_hook) := goodIn_app (goodIn_of _ (by decide +kernel)) ggL_law_X7_hook
set_option maxRecDepth 20000 in
theorem ggL_law_X8_hook : GoodIn wsL_law wsX8_hook := goodIn_r _ [299, 300, 301, 302, 5, 303, 263, 125, 126, 127, 304, 305, 306, 307, 90, 87, 88, 91, 92, 93, 89, 765, 766, 767, 768, 769, 770, 771, 772, 773, 774, 775, 776, 777, 778, 779, 780, 781, 782, 783, 784, 785, 786, 787, 788, 789, 790, 791, 792, 793, 794, 795, 796, 797, 798, 799, 800, 801, 802, 803, 804, 805, 806] (by decide +kernel) (by decide +kernel)
set_option maxRecDepth 20000 in
theorem gL_law_X8_hook : GoodIn wsL_law (wsV RL 35 RX8 yX8_hook wsX8_hook) := goodIn_app (goodIn_of _ (by decide +kernel)) ggL_law_X8_hook
set_option maxRecDepth 20000 in
theorem ggL_law_X7_parcel : GoodIn wsL_law wsX7_parcel := goodIn_r _ [311, 23, 312, 281, 313, 314, 2, 315, 233, 282, 283, 284, 285, 19, 181, 316, 317, 318, 56, 319, 290, 63, 64, 66, 756, 757, 758, 759, 760, 761, 762, 763, 764, 813, 814, 815, 816, 817, 818, 819, 820, 834, 835, 836, 837, 809, 810, 811, 812] (by decide +kernel) (by decide +kernel)
set_option maxRecDepth 20000 in
theorem gL_law_X7_parcel : GoodIn wsL_law (wsV RL 36 RX7 yX7_parcel wsX7_parcel) := goodIn_app (goodIn_of _ (by decide +kernel)) ggL_law_X7_parcel
set_option maxRecDepth 20000 in
theorem ggL_law_X8_parcel : GoodIn wsL_law wsX8_parcel := goodIn_r _ [323, 265, 95, 96, 125, 126, 5, 127, 300, 301, 302, 303, 263, 765, 766, 767, 768, 769, 770, 771, 772, 773, 774, 775, 776, 777, 778, 779, 780, 781, 782, 783, 784, 785, 786, 787, 788, 789, 790, 791, 792, 793, 794, 795, 796, 797, 798, 799, 800, 801, 802, 803, 804, 805, 806] (by decide +kernel) (by decide +kernel)
set_option maxRecDepth 20000 in
theorem gL_law_X8_parcel : GoodIn wsL_law (wsV RL 39 RX8 yX8_parcel wsX8_parcel) := goodIn_app (goodIn_of _ (by decide +kernel)) ggL_law_X8_parcel
set_option maxRecDepth 20000 in
theorem ggL_law_X7_belt : GoodIn wsL_law wsX7_belt := goodIn_r _ [327, 23, 312, 281, 328, 329, 330, 56, 331, 290, 63, 332, 333, 334, 335, 64, 230, 231, 2, 232, 233, 756, 757, 758, 759, 760, 761, 762, 763, 764, 813, 814, 815, 816, 817, 818, 819, 820, 834, 835, 836, 837] (by decide +kernel) (by decide +kernel)
set_option maxRecDepth 20000 in
theorem gL_law_X7_belt : GoodIn wsL_law (wsV RL 40 RX7 yX7_belt wsX7_belt) := goodIn_app (goodIn_of _ (by decide +kernel)) ggL_law_X7_belt
set_option maxRecDepth 20000 in
theorem ggL_law_X8_belt : GoodIn wsL_law wsX8_belt := goodIn_r _ [339, 340, 341, 342, 5, 343, 265, 125, 126, 127, 344, 345, 346, 347, 95, 96, 348, 349, 350, 765, 766, 767, 768, 769, 770, 771, 772, 773, 774, 775, 776, 777, 778, 779, 780, 781, 782, 783, 784, 785, 786, 787, 788, 789, 790, 791, 792, 793, 794, 795, 796, 797, 798, 799, 800, 801, 802, 803, 804, 805, 806] (by decide +kernel) (by decide +kernel)
set_option maxRecDepth 20000 in
theorem gL_law_X8_belt : GoodIn wsL_law (wsV RL 43 RX8 yX8_belt wsX8_belt) := goodIn_app (goodIn_of _ (by decide +kernel)) ggL_law_X8_belt
set_option maxRecDepth 20000 in
theorem ggL_law_X7_as : GoodIn wsL_law wsX7_as := goodIn_r _ [354, 23, 312, 281, 313, 314, 2, 315, 233, 328, 329, 330, 56, 331, 290, 63, 355, 356, 357, 332, 333, 334, 335, 64, 756, 757, 758, 759, 760, 761, 762, 763, 764, 813, 814, 815, 816, 817, 818, 819, 820, 834, 835, 836, 837] (by decide +kernel) (by decide +kernel)
set_option maxRecDepth 20000 in
theorem gL_law_X7_as : GoodIn wsL_law (wsV RL 44 RX7 yX7_as wsX7_as) := goodIn_app (goodIn_of _ (by decide +kernel)) ggL_law_X7_as
set_option maxRecDepth 20000 in
theorem ggL_law_X8_as : GoodIn wsL_law wsX8_as := goodIn_r _ [361, 95, 96, 340, 341, 342, 5, 343, 265, 125, 126, 127, 765, 766, 767, 768, 769, 770, 771, 772, 773, 774, 775, 776, 777, 778, 779, 780, 781, 782, 783, 784, 785, 786, 787, 788, 789, 790, 791, 792, 793, 794, 795, 796, 797, 798, 799, 800, 801, 802, 803, 804, 805, 806] (by decide +kernel) (by decide +kernel)
set_option maxRecDepth 20000 in
theorem gL_law_X8_as : GoodIn wsL_law (wsV RL 47 RX8 yX8_as wsX8_as) := goodIn_app (goodIn_of _ (by decide +kernel)) ggL_law_X8_as
set_option maxRecDepth 20000 in
theorem ggL_law_X7_toss : GoodIn wsL_law wsX7_toss := goodIn_r _ [365, 23, 312, 281, 19, 181, 366, 279, 282, 283, 284, 2, 285, 367, 368, 369, 370, 277, 280, 328, 329, 330, 56, 331, 290, 63, 371, 372, 373, 374, 375, 376, 377, 223, 224, 225, 226, 196, 197, 198, 227, 228, 229, 230, 231, 232, 233, 237, 238, 239, 378, 379, 380, 22, 381, 57, 212, 54, 382, 383, 384, 385, 386, 66, 387, 333, 334, 335, 64, 388, 317, 318, 319, 389, 390, 391, 392, 393, 756, 757, 758, 759, 760, 761, 762, 763, 764, 813, 814, 815, 816, 817, 818, 819, 820, 834, 835, 836, 837, 809, 810, 811, 812] (by decide +kernel) (by decide +kernel)
set_option maxRecDepth 20000 in
theorem gL_law_X7_toss : GoodIn wsL_law (wsV RL 48 RX7 yX7_toss wsX7_toss) := goodIn_app (goodIn_of _ (by decide +kernel)) ggL_law_X7_toss
set_option maxRecDepth 20000 in
theorem ggL_law_X8_toss : GoodIn wsL_law wsX8_toss := goodIn_r _ [397, 265, 95, 266, 300, 301, 302, 5, 303, 263, 125, 126, 127, 398, 399, 400, 401, 91, 90, 88, 402, 403, 404, 405, 406, 407, 408, 409, 87, 348, 349, 350, 410, 411, 412, 413, 414, 415, 416, 417, 418, 419, 420, 421, 422, 423, 424, 425, 92, 96, 267, 94, 93, 765, 766, 767, 768, 769, 770, 771, 772, 773, 774, 775, 776, 777, 778, 779, 780, 781, 782, 783, 784, 785, 786, 787, 788, 789, 790, 791, 792, 793, 794, 795, 796, 797, 798, 799, 800, 801, 802, 803, 804, 805, 806] (by decide +kernel) (by decide +kernel)
set_option maxRecDepth 20000 in
theorem gL_law_X8_toss : GoodIn wsL_law (wsV RL 51 RX8 yX8_toss wsX8_toss) := goodIn_app (goodIn_of _ (by decide +kernel)) ggL_law_X8_toss
set_option maxRecDepth 20000 in
theorem ggL_law_X7_carry : GoodIn wsL_law wsX7_carry := goodIn_r _ [429, 23, 312, 281, 366, 19, 279, 282, 283, 284, 2, 285, 181, 367, 368, 369, 370, 277, 280, 237, 238, 239, 378, 379, 380, 22, 381, 57, 212, 54, 382, 329, 330, 56, 331, 290, 63, 383, 384, 385, 386, 66, 387, 333, 334, 335, 64, 388, 317, 318, 319, 389, 390, 391, 392, 393, 228, 197, 229, 756, 757, 758, 759, 760, 761, 762, 763, 764, 813, 814, 815, 816, 817, 818, 819, 820, 834, 835, 836, 837, 809, 810, 811, 812] (by decide +kernel) (by decide +kernel)
set_option maxRecDepth 20000 in
theorem gL_law_X7_carry : GoodIn wsL_law (wsV RL 52 RX7 yX7_carry wsX7_carry) := goodIn_app (goodIn_of _ (by decide +kernel)) ggL_law_X7_carry
set_option maxRecDepth 20000 in
theorem ggL_law_X8_carry : GoodIn wsL_law wsX8_carry := goodIn_r _ [433, 265, 266, 300, 301, 302, 5, 303, 263, 125, 126, 127, 398, 399, 400, 401, 91, 90, 88, 418, 419, 420, 421, 87, 422, 423, 424, 425, 95, 92, 96, 267, 94, 93, 765, 766, 767, 768, 769, 770, 771, 772, 773, 774, 775, 776, 777, 778, 779, 780, 781, 782, 783, 784, 785, 786, 787, 788, 789, 790, 791, 792, 793, 794, 795, 796, 797, 798, 799, 800, 801, 802, 803, 804, 805, 806] (by decide +kernel) (by decide +kernel)
set_option maxRecDepth 20000 in
theorem gL_law_X8_carry : GoodIn wsL_law (wsV RL 55 RX8 yX8_carry wsX8_carry) := goodIn_app (goodIn_of _ (by decide +kernel)) ggL_law_X8_carry
set_option maxRecDepth 20000 in
theorem ggL_law_X7_change : GoodIn wsL_law wsX7_change := goodIn_r _ [437, 23, 277, 281, 366, 282, 283, 284, 2, 285, 19, 181, 756, 757, 758, 759, 760, 761, 762, 763, 764, 813, 814, 815, 816, 817, 818, 819, 820, 834, 835, 836, 837, 809, 810, 811, 812] (by decide +kernel) (by decide +kernel)
set_option maxRecDepth 20000 in
theorem gL_law_X7_change : GoodIn wsL_law (wsV RL 56 RX7 yX7_change wsX7_change) := goodIn_app (goodIn_of _ (by decide +kernel)) ggL_law_X7_change
set_option maxRecDepth 20000 in
theorem ggL_law_X8_change : GoodIn wsL_law wsX8_change := goodIn_r _ [441, 91, 90, 266, 300, 301, 302, 5, 303, 263, 125, 126, 127, 269, 270, 271, 272, 92, 93, 94, 765, 766, 767, 768, 769, 770, 771, 772, 773, 774, 775, 776, 777, 778, 779, 780, 781, 782, 783, 784, 785, 786, 787, 788, 789, 790, 791, 792, 793, 794, 795, 796, 797, 798, 799, 800, 801, 802, 803, 804, 805, 806] (by decide +kernel) (by decide +kernel)
set_option maxRecDepth 20000 in
theorem gL_law_X8_change : GoodIn wsL_law (wsV RL 59 RX8 yX8_change wsX8_change) := goodIn_app (goodIn_of _ (by decide +kernel)) ggL_law_X8_change
set_option maxRecDepth 20000 in
theorem ggL_law_X7_exchange : GoodIn wsL_law wsX7_exchange := goodIn_r _ [445, 23, 277, 281, 19, 280, 366, 282, 283, 284, 2, 285, 181, 446, 447, 448, 22, 449, 54, 52, 756, 757, 758, 759, 760, 761, 762, 763, 764, 813, 814, 815, 816, 817, 818, 819, 820, 834, 835, 836, 837, 809, 810, 811, 812] (by decide +kernel) (by decide +kernel)
set_option maxRecDepth 20000 in
theorem gL_law_X7_exchange : GoodIn wsL_law (wsV RL 60 RX7 yX7_exchange wsX7_exchange) := goodIn_app (goodIn_of _ (by decide +kernel)) ggL_law_X7_exchange
set_option maxRecDepth 20000 in
theorem ggL_law_X8_exchange : GoodIn wsL_law wsX8_exchange := goodIn_r _ [453, 90, 91, 88, 266, 300, 301, 302, 5, 303, 263, 125, 126, 127, 765, 766, 767, 768, 769, 770, 771, 772, 773, 774, 775, 776, 777, 778, 779, 780, 781, 782, 783, 784, 785, 786, 787, 788, 789, 790, 791, 792, 793, 794, 795, 796, 797, 798, 799, 800, 801, 802, 803, 804, 805, 806] (by decide +kernel) (by decide +kernel)
set_option maxRecDepth 20000 in
theorem gL_law_X8_exchange : GoodIn wsL_law (wsV RL 63 RX8 yX8_exchange wsX8_exchange) := goodIn_app (goodIn_of _ (by decide +kernel)) ggL_law_X8_exchange
set_option maxRecDepth 20000 in
theorem ggL_law_X7_odds : GoodIn wsL_law wsX7_odds := goodIn_r _ [457, 19, 279, 181, 313, 314, 2, 315, 233, 282, 283, 284, 285, 234, 235, 236, 237, 238, 239, 375, 376, 377, 367, 368, 369, 370, 23, 277, 281, 280, 458, 221, 222, 223, 224, 225, 226, 196, 197, 198, 227, 228, 229, 230, 231, 232, 371, 372, 373, 374, 756, 757, 758, 759, 760, 761, 762, 763, 764, 809, 810, 811, 812, 813, 814, 815, 816, 817, 818, 819, 820, 834, 835, 836, 837] (by decide +kernel) (by decide +kernel)
set_option maxRecDepth 20000 in
theorem gL_law_X7_odds : GoodIn wsL_law (wsV RL 64 RX7 yX7_odds wsX7_odds) := goodIn_app (goodIn_of _ (by decide +kernel)) ggL_law_X7_odds
set_option maxRecDepth 20000 in
theorem ggL_law_X8_odds : GoodIn wsL_law wsX8_odds := goodIn_r _ [462, 125, 126, 5, 127, 300, 301, 302, 303, 263, 463, 464, 465, 466, 402, 403, 404, 405, 406, 407, 408, 409, 87, 348, 349, 350, 410, 411, 412, 413, 398, 399, 400, 401, 91, 90, 88, 414, 415, 416, 417, 467, 468, 469, 470, 471, 472, 473, 474, 418, 419, 420, 421, 765, 766, 767, 768, 769, 770, 771, 772, 773, 774, 775, 776, 777, 778, 779, 780, 781, 782, 783, 784, 785, 786, 787, 788, 789, 790, 791, 792, 793, 794, 795, 796, 797, 798, 799, 800, 801, 802, 803, 804, 805, 806] (by decide +kernel) (by decide +kernel)
set_option maxRecDepth 20000 in
theorem gL_law_X8_odds : GoodIn wsL_law (wsV RL 68 RX8 yX8_odds wsX8_odds) := goodIn_app (goodIn_of _ (by decide +kernel)) ggL_law_X8_odds
set_option maxRecDepth 20000 in
theorem ggL_law_X7_hanging : GoodIn wsL_law wsX7_hanging := goodIn_r _ [478, 19, 181, 28, 479, 23, 480, 481, 482, 483, 27, 484, 70, 485, 486, 487, 22, 488, 52, 282, 283, 284, 2, 285, 756, 757, 758, 759, 760, 761, 762, 763, 764, 809, 810, 811, 812, 821, 822, 823, 824, 813, 814, 815, 816, 817, 818, 819, 820] (by decide +kernel) (by decide +kernel)
set_option maxRecDepth 20000 in
theorem gL_law_X7_hanging : GoodIn wsL_law (wsV RL 69 RX7 yX7_hanging wsX7_hanging) := goodIn_app (goodIn_of _ (by decide +kernel)) ggL_law_X7_hanging
set_option maxRecDepth 20000 in
theorem ggL_law_X8_hanging : GoodIn wsL_law wsX8_hanging := goodIn_r _ [492, 263, 125, 126, 5, 127, 493, 494, 495, 496, 497, 90, 498, 499, 500, 501, 502, 503, 504, 505, 506, 507, 508, 509, 89, 510, 511, 512, 513, 406, 407, 408, 409, 87, 348, 349, 350, 414, 415, 416, 417, 471, 472, 473, 474, 418, 419, 420, 421, 514, 515, 516, 517, 518, 519, 520, 521, 765, 766, 767, 768, 769, 770, 771, 772, 773, 774, 775, 776, 777, 778, 779, 780, 781, 782, 783, 784, 785, 786, 787, 788, 789, 790, 791, 792, 793, 794, 795, 796, 797, 798, 799, 800, 801, 802, 803, 804, 805, 806] (by decide +kernel) (by decide +kernel)
set_option maxRecDepth 20000 in
theorem gL_law_X8_hanging : GoodIn wsL_law (wsV RL 72 RX8 yX8_hanging wsX8_hanging) := goodIn_app (goodIn_of _ (by decide +kernel)) ggL_law_X8_hanging
set_option maxRecDepth 20000 in
theorem ggL_law_X7_found : GoodIn wsL_law wsX7_found := goodIn_r _ [525, 23, 526, 32, 178, 282, 283, 284, 2, 285, 19, 181, 527, 528, 529, 22, 530, 210, 58, 59, 756, 757, 758, 759, 760, 761, 762, 763, 764, 813, 814, 815, 816, 817, 818, 819, 820, 825, 826, 827, 828, 829, 809, 810, 811, 812] (by decide +kernel) (by decide +kernel)
set_option maxRecDepth 20000 in
theorem gL_law_X7_found : GoodIn wsL_law (wsV RL 73 RX7 yX7_found wsX7_found) := goodIn_app (goodIn_of _ (by decide +kernel)) ggL_law_X7_found
set_option maxRecDepth 20000 in
theorem ggL_law_X8_found : GoodIn wsL_law wsX8_found := goodIn_r _ [534, 268, 97, 98, 300, 301, 302, 5, 303, 263, 125, 126, 127, 765, 766, 767, 768, 769, 770, 771, 772, 773, 774, 775, 776, 777, 778, 779, 780, 781, 782, 783, 784, 785, 786, 787, 788, 789, 790, 791, 792, 793, 794, 795, 796, 797, 798, 799, 800, 801, 802, 803, 804, 805, 806] (by decide +kernel) (by decide +kernel)
set_option maxRecDepth 20000 in
theorem gL_law_X8_found : GoodIn wsL_law (wsV RL 76 RX8 yX8_found wsX8_found) := goodIn_app (goodIn_of _ (by decide +kernel)) ggL_law_X8_found
set_option maxRecDepth 20000 in
theorem ggL_law_X7_forget : GoodIn wsL_law wsX7_forget := goodIn_r _ [538, 23, 526, 32, 178, 756, 757, 758, 759, 760, 761, 762, 763, 764, 813, 814, 815, 816, 817, 818, 819, 820, 825, 826, 827, 828, 829] (by decide +kernel) (by decide +kernel)
set_option maxRecDepth 20000 in
theorem gL_law_X7_forget : GoodIn wsL_law (wsV RL 77 RX7 yX7_forget wsX7_forget) := goodIn_app (goodIn_of _ (by decide +kernel)) ggL_law_X7_forget
set_option maxRecDepth 20000 in
theorem ggL_law_X8_forget : GoodIn wsL_law wsX8_forget := goodIn_r _ [542, 268, 765, 766, 767, 768, 769, 770, 771, 772, 773, 774, 775, 776, 777, 778, 779, 780, 781, 782, 783, 784, 785, 786, 787, 788, 789, 790, 791, 792, 793, 794, 795, 796, 797, 798, 799, 800, 801, 802, 803, 804, 805, 806] (by decide +kernel) (by decide +kernel)
set_option maxRecDepth 20000 in
theorem gL_law_X8_forget : GoodIn wsL_law (wsV RL 80 RX8 yX8_forget wsX8_forget) := goodIn_app (goodIn_of _ (by decide +kernel)) ggL_law_X8_forget
set_option maxRecDepth 20000 in
theorem ggL_law_X7_hung : GoodIn wsL_law wsX7_hung := goodIn_r _ [546, 19, 181, 32, 23, 547, 548, 549, 550, 31, 551, 552, 553, 78, 554, 196, 197, 198, 555, 556, 557, 558, 559, 560, 561, 562, 77, 563, 564, 565, 566, 567, 568, 76, 569, 570, 571, 572, 573, 574, 575, 576, 756, 757, 758, 759, 760, 761, 762, 763, 764, 809, 810, 811, 812, 825, 826, 827, 828, 829, 813, 814, 815, 816, 817, 818, 819, 820] (by decide +kernel) (by decide +kernel)
set_option maxRecDepth 20000 in
theorem gL_law_X7_hung : GoodIn wsL_law (wsV RL 81 RX7 yX7_hung wsX7_hung) := goodIn_app (goodIn_of _ (by decide +kernel)) ggL_law_X7_hung
set_option maxRecDepth 20000 in
theorem ggL_law_X8_hung : GoodIn wsL_law wsX8_hung := goodIn_r _ [580, 263, 581, 582, 583, 5, 584, 498, 499, 500, 501, 502, 503, 504, 505, 90, 585, 586, 587, 588, 268, 98, 97, 518, 519, 520, 521, 410, 411, 412, 413, 765, 766, 767, 768, 769, 770, 771, 772, 773, 774, 775, 776, 777, 778, 779, 780, 781, 782, 783, 784, 785, 786, 787, 788, 789, 790, 791, 792, 793, 794, 795, 796, 797, 798, 799, 800, 801, 802, 803, 804, 805, 806] (by decide +kernel) (by decide +kernel)
set_option maxRecDepth 20000 in
theorem gL_law_X8_hung : GoodIn wsL_law (wsV RL 84 RX8 yX8_hung wsX8_hung) := goodIn_app (goodIn_of _ (by decide +kernel)) ggL_law_X8_hung
set_option maxRecDepth 20000 in
theorem ggL_law_X7_where : GoodIn wsL_law wsX7_where := goodIn_r _ [592, 32, 23, 19, 181, 593, 282, 283, 284, 2, 285, 548, 549, 550, 31, 551, 552, 553, 78, 554, 196, 197, 198, 555, 556, 557, 558, 559, 560, 561, 562, 77, 563, 564, 565, 566, 567, 568, 76, 569, 570, 571, 572, 573, 574, 575, 576, 756, 757, 758, 759, 760, 761, 762, 763, 764, 809, 810, 811, 812, 825, 826, 827, 828, 829, 813, 814, 815, 816, 817, 818, 819, 820] (by decide +kernel) (by decide +kernel)
set_option maxRecDepth 20000 in
theorem gL_law_X7_where : GoodIn wsL_law (wsV RL 85 RX7 yX7_where wsX7_where) := goodIn_app (goodIn_of _ (by decide +kernel)) ggL_law_X7_where
set_option maxRecDepth 20000 in
theorem ggL_law_X8_where : GoodIn wsL_law wsX8_where := goodIn_r _ [597, 300, 301, 302, 5, 303, 263, 125, 126, 127, 598, 599, 600, 601, 498, 499, 500, 501, 502, 503, 504, 505, 90, 585, 586, 587, 588, 268, 98, 97, 518, 519, 520, 521, 410, 411, 412, 413, 765, 766, 767, 768, 769, 770, 771, 772, 773, 774, 775, 776, 777, 778, 779, 780, 781, 782, 783, 784, 785, 786, 787, 788, 789, 790, 791, 792, 793, 794, 795, 796, 797, 798, 799, 800, 801, 802, 803, 804, 805, 806] (by decide +kernel) (by decide +kernel)
set_option maxRecDepth 20000 in
theorem gL_law_X8_where : GoodIn wsL_law (wsV RL 88 RX8 yX8_where wsX8_where) := goodIn_app (goodIn_of _ (by decide +kernel)) ggL_law_X8_where
set_option maxRecDepth 20000 in
theorem ggL_law_X7_shifts : GoodIn wsL_law wsX7_shifts := goodIn_r _ [605, 19, 181, 36, 23, 606, 607, 608, 609, 610, 611, 35, 612, 82, 613, 614, 615, 616, 617, 556, 557, 558, 618, 619, 620, 621, 622, 623, 624, 625, 486, 487, 22, 488, 52, 626, 627, 628, 629, 630, 631, 376, 2, 377, 224, 225, 226, 196, 197, 198, 227, 228, 229, 230, 231, 232, 233, 756, 757, 758, 759, 760, 761, 762, 763, 764, 809, 810, 811, 812, 830, 831, 832, 833, 813, 814, 815, 816, 817, 818, 819, 820] (by decide +kernel) (by decide +kernel)
set_option maxRecDepth 20000 in
theorem gL_law_X7_shifts : GoodIn wsL_law (wsV RL 89 RX7 yX7_shifts wsX7_shifts) := goodIn_app (goodIn_of _ (by decide +kernel)) ggL_law_X7_shifts
set_option maxRecDepth 20000 in
theorem ggL_law_X8_shifts : GoodIn wsL_law wsX8_shifts := goodIn_r _ [635, 263, 125, 126, 5, 127, 636, 637, 638, 639, 91, 640, 641, 642, 643, 644, 645, 646, 90, 647, 648, 649, 650, 651, 652, 653, 654, 518, 519, 520, 521, 655, 656, 657, 658, 88, 406, 407, 408, 409, 87, 348, 349, 350, 414, 415, 416, 417, 410, 411, 412, 413, 765, 766, 767, 768, 769, 770, 771, 772, 773, 774, 775, 776, 777, 778, 779, 780, 781, 782, 783, 784, 785, 786, 787, 788, 789, 790, 791, 792, 793, 794, 795, 796, 797, 798, 799, 800, 801, 802, 803, 804, 805, 806] (by decide +kernel) (by decide +kernel)
set_option maxRecDepth 20000 in
theorem gL_law_X8_shifts : GoodIn wsL_law (wsV RL 92 RX8 yX8_shifts wsX8_shifts) := goodIn_app (goodIn_of _ (by decide +kernel)) ggL_law_X8_shifts
set_option maxRecDepth 20000 in
theorem ggL_law_X7_image : GoodIn wsL_law wsX7_image := goodIn_r _ [662, 19, 181, 24, 23, 179, 366, 663, 664, 665, 22, 666, 52, 54, 57, 58, 59, 210, 211, 212, 667, 668, 669, 56, 670, 290, 63, 64, 66, 756, 757, 758, 759, 760, 761, 762, 763, 764, 809, 810, 811, 812, 813, 814, 815, 816, 817, 818, 819, 820, 834, 835, 836, 837] (by decide +kernel) (by decide +kernel)
set_option maxRecDepth 20000 in
theorem gL_law_X7_image : GoodIn wsL_law (wsV RL 93 RX7 yX7_image wsX7_image) := goodIn_app (goodIn_of _ (by decide +kernel)) ggL_law_X7_image
set_option maxRecDepth 20000 in
theorem ggL_law_X8_image : GoodIn wsL_law wsX8_image := goodIn_r _ [674, 263, 675, 264, 676, 265, 677, 266, 678, 267, 679, 268, 680, 101, 90, 102, 91, 103, 92, 104, 93, 105, 94, 106, 95, 107, 96, 108, 97, 109, 98, 765, 766, 767, 768, 769, 770, 771, 772, 773, 774, 775, 776, 777, 778, 779, 780, 781, 782, 783, 784, 785, 786, 787, 788, 789, 790, 791, 792, 793, 794, 795, 796, 797, 798, 799, 800, 801, 802, 803, 804, 805, 806] (by decide +kernel) (by decide +kernel)
set_option maxRecDepth 20000 in
theorem gL_law_X8_image : GoodIn wsL_law (wsV RL 96 RX8 yX8_image wsX8_image) := goodIn_app (goodIn_of _ (by decide +kernel)) ggL_law_X8_image
set_option maxRecDepth 20000 in
theorem ggL_law_X7_restore : GoodIn wsL_law wsX7_restore := goodIn_r _ [684, 179, 23, 24, 32, 178, 366, 663, 664, 665, 22, 666, 52, 54, 57, 58, 59, 210, 211, 212, 667, 668, 669, 56, 670, 290, 63, 64, 66, 756, 757, 758, 759, 760, 761, 762, 763, 764, 825, 826, 827, 828, 829, 813, 814, 815, 816, 817, 818, 819, 820, 834, 835, 836, 837] (by decide +kernel) (by decide +kernel)
set_option maxRecDepth 20000 in
theorem gL_law_X7_restore : GoodIn wsL_law (wsV RL 97 RX7 yX7_restore wsX7_restore) := goodIn_app (goodIn_of _ (by decide +kernel)) ggL_law_X7_restore
set_option maxRecDepth 20000 in
theorem ggL_law_X8_restore : GoodIn wsL_law wsX8_restore := goodIn_r _ [688, 675, 676, 264, 677, 265, 678, 266, 679, 267, 680, 268, 90, 101, 91, 102, 92, 103, 93, 104, 94, 105, 95, 106, 96, 107, 97, 108, 98, 109, 765, 766, 767, 768, 769, 770, 771, 772, 773, 774, 775, 776, 777, 778, 779, 780, 781, 782, 783, 784, 785, 786, 787, 788, 789, 790, 791, 792, 793, 794, 795, 796, 797, 798, 799, 800, 801, 802, 803, 804, 805, 806] (by decide +kernel) (by decide +kernel)
set_option maxRecDepth 20000 in
theorem gL_law_X8_restore : GoodIn wsL_law (wsV RL 100 RX8 yX8_restore wsX8_restore) := goodIn_app (goodIn_of _ (by decide +kernel)) ggL_law_X8_restore
set_option maxRecDepth 20000 in
theorem ggL_law_X7_count : GoodIn wsL_law wsX7_count := goodIn_r _ [692, 19, 181, 23, 312, 281, 366, 693, 526, 15, 114, 180, 694, 695, 696, 22, 697, 54, 209, 698, 699, 700, 701, 52, 702, 287, 288, 56, 289, 290, 64, 756, 757, 758, 759, 760, 761, 762, 763, 764, 809, 810, 811, 812, 813, 814, 815, 816, 817, 818, 819, 820, 834, 835, 836, 837, 807, 808] (by decide +kernel) (by decide +kernel)
set_option maxRecDepth 20000 in
theorem gL_law_X7_count : GoodIn wsL_law (wsV RL 101 RX7 yX7_count wsX7_count) := goodIn_app (goodIn_of _ (by decide +kernel)) ggL_law_X7_count
set_option maxRecDepth 20000 in
theorem ggL_law_X8_count : GoodIn wsL_law wsX8_count := goodIn_r _ [706, 707, 708, 709, 5, 710, 263, 265, 266, 267, 268, 124, 264, 711, 712, 713, 714, 92, 91, 765, 766, 767, 768, 769, 770, 771, 772, 773, 774, 775, 776, 777, 778, 779, 780, 781, 782, 783, 784, 785, 786, 787, 788, 789, 790, 791, 792, 793, 794, 795, 796, 797, 798, 799, 800, 801, 802, 803, 804, 805, 806] (by decide +kernel) (by decide +kernel)
set_option maxRecDepth 20000 in
theorem gL_law_X8_count : GoodIn wsL_law (wsV RL 104 RX8 yX8_count wsX8_count) := goodIn_app (goodIn_of _ (by decide +kernel)) ggL_law_X8_count
set_option maxRecDepth 20000 in
theorem ggL_law_X7_digest : GoodIn wsL_law wsX7_digest := goodIn_r _ [718, 719, 19, 181, 23, 312, 281, 720, 15, 114, 721, 722, 723, 2, 724, 725, 274, 275, 276, 277, 278, 279, 280, 282, 283, 284, 285, 286, 287, 288, 56, 289, 290, 64, 291, 292, 293, 294, 63, 295, 256, 257, 18, 258, 199, 47, 726, 455, 456, 457, 313, 314, 315, 233, 234, 235, 236, 237, 238, 239, 375, 376, 377, 367, 368, 369, 370, 458, 221, 222, 223, 224, 225, 226, 196, 197, 198, 227, 228, 229, 230, 231, 232, 371, 372, 373, 374, 727, 325, 326, 327, 328, 329, 330, 331, 332, 333, 334, 335, 728, 729, 730, 731, 732, 476, 477, 478, 28, 479, 480, 481, 482, 483, 27, 484, 70, 485, 486, 487, 22, 488, 52, 733, 544, 545, 546, 32, 547, 548, 549, 550, 31, 551, 552, 553, 78, 554, 555, 556, 557, 558, 559, 560, 561, 562, 77, 563, 564, 565, 566, 567, 568, 76, 569, 570, 571, 572, 573, 574, 575, 576, 734, 590, 591, 592, 593, 735, 145, 146, 14, 147, 119, 41, 736, 690, 691, 692, 366, 693, 526, 180, 694, 695, 696, 697, 54, 209, 698, 699, 700, 701, 702, 756, 757, 758, 759, 760, 761, 762, 763, 764, 809, 810, 811, 812, 813, 814, 815, 816, 817, 818, 819, 820, 834, 835, 836, 837, 807, 808, 821, 822, 823, 824, 825, 826, 827, 828, 829] (by decide +kernel) (by decide +kernel)
set_option maxRecDepth 20000 in
theorem gL_law_X7_digest : GoodIn wsL_law (wsV RL 105 RX7 yX7_digest wsX7_digest) := goodIn_app (goodIn_of _ (by decide +kernel)) ggL_law_X7_digest
set_option maxRecDepth 20000 in
theorem ggL_law_X8_digest : GoodIn wsL_law wsX8_digest := goodIn_r _ [740, 741, 742, 263, 265, 124, 100, 743, 744, 745, 5, 746, 304, 305, 306, 307, 90, 87, 88, 91, 92, 93, 89, 747, 748, 749, 750, 751, 463, 464, 465, 466, 402, 403, 404, 405, 406, 407, 408, 409, 348, 349, 350, 410, 411, 412, 413, 398, 399, 400, 401, 414, 415, 416, 417, 467, 468, 469, 470, 471, 472, 473, 474, 418, 419, 420, 421, 344, 345, 346, 347, 95, 96, 752, 753, 754, 755, 493, 494, 495, 496, 497, 498, 499, 500, 501, 502, 503, 504, 505, 506, 507, 508, 509, 510, 511, 512, 513, 514, 515, 516, 517, 518, 519, 520, 521, 581, 582, 583, 584, 585, 586, 587, 588, 268, 98, 97, 598, 599, 600, 601, 707, 708, 709, 710, 266, 267, 264, 711, 712, 713, 714, 765, 766, 767, 768, 769, 770, 771, 772, 773, 774, 775, 776, 777, 778, 779, 780, 781, 782, 783, 784, 785, 786, 787, 788, 789, 790, 791, 792, 793, 794, 795, 796, 797, 798, 799, 800, 801, 802, 803, 804, 805, 806] (by decide +kernel) (by decide +kernel)
set_option maxRecDepth 20000 in
theorem gL_law_X8_digest : GoodIn wsL_law (wsV RL 109 RX8 yX8_digest wsX8_digest) := goodIn_app (goodIn_of _ (by decide +kernel)) ggL_law_X8_digest
theorem dL_law_0 : decode cL_law 0 = .ok (.new 7, 3) := by decide +kernel
theorem dL_law_3 : decode cL_law 3 = .ok (.dup, 1) := by decide +kernel
theorem dL_law_4 : decode cL_law 4 = .ok (.invokespecial 9, 3) := by decide +kernel
theorem dL_law_7 : decode cL_law 7 = .ok (.astore_n 1, 1) := by decide +kernel
theorem dL_law_8 : decode cL_law 8 = .ok (.new 10, 3) := by decide +kernel
theorem dL_law_11 : decode cL_law 11 = .ok (.dup, 1) := by decide +kernel
theorem dL_law_12 : decode cL_law 12 = .ok (.invokespecial 12, 3) := by decide +kernel
theorem dL_law_15 : decode cL_law 15 = .ok (.astore_n 2, 1) := by decide +kernel
theorem dL_law_16 : decode cL_law 16 = .ok (.iconst 0, 1) := by decide +kernel
theorem dL_law_17 : decode cL_law 17 = .ok (.istore_n 3, 1) := by decide +kernel
theorem dL_law_18 : decode cL_law 18 = .ok (.iload_n 3, 1) := by decide +kernel
theorem dL_law_19 : decode cL_law 19 = .ok (.aload_n 0, 1) := by decide +kernel
theorem dL_law_20 : decode cL_law 20 = .ok (.arraylength, 1) := by decide +kernel
theorem dL_law_21 : decode cL_law 21 = .ok (.iconst 4, 1) := by decide +kernel
theorem dL_law_22 : decode cL_law 22 = .ok (.isub, 1) := by decide +kernel
theorem dL_law_23 : decode cL_law 23 = .ok (.if_icmp .gt 683, 3) := by decide +kernel
theorem dL_law_26 : decode cL_law 26 = .ok (.aload_n 0, 1) := by decide +kernel
theorem dL_law_27 : decode cL_law 27 = .ok (.iload_n 3, 1) := by decide +kernel
theorem dL_law_28 : decode cL_law 28 = .ok (.iaload, 1) := by decide +kernel
theorem dL_law_29 : decode cL_law 29 = .ok (.bipush 31, 2) := by decide +kernel
theorem dL_law_31 : decode cL_law 31 = .ok (.iand, 1) := by decide +kernel
theorem dL_law_32 : decode cL_law 32 = .ok (.tableswitch 668 0 22 #[108, 131, 144, 157, 170, 203, 236, 269, 302, 335, 358, 381, 414, 457, 480, 513, 526, 539, 562, 605, 618, 631, 654], 108) := by decide +kernel
theorem dL_law_140 : decode cL_law 140 = .ok (.aload_n 1, 1) := by decide +kernel
theorem dL_law_141 : decode cL_law 141 = .ok (.aload_n 0, 1) := by decide +kernel
theorem dL_law_142 : decode cL_law 142 = .ok (.iload_n 3, 1) := by decide +kernel
theorem dL_law_143 : decode cL_law 143 = .ok (.iconst 1, 1) := by decide +kernel
theorem dL_law_144 : decode cL_law 144 = .ok (.iadd, 1) := by decide +kernel
theorem dL_law_145 : decode cL_law 145 = .ok (.iaload, 1) := by decide +kernel
theorem dL_law_146 : decode cL_law 146 = .ok (.invokevirtual 13, 3) := by decide +kernel
theorem dL_law_149 : decode cL_law 149 = .ok (.aload_n 2, 1) := by decide +kernel
theorem dL_law_150 : decode cL_law 150 = .ok (.aload_n 0, 1) := by decide +kernel
theorem dL_law_151 : decode cL_law 151 = .ok (.iload_n 3, 1) := by decide +kernel
theorem dL_law_152 : decode cL_law 152 = .ok (.iconst 1, 1) := by decide +kernel
theorem dL_law_153 : decode cL_law 153 = .ok (.iadd, 1) := by decide +kernel
theorem dL_law_154 : decode cL_law 154 = .ok (.iaload, 1) := by decide +kernel
theorem dL_law_155 : decode cL_law 155 = .ok (.invokevirtual 17, 3) := by decide +kernel
theorem dL_law_158 : decode cL_law 158 = .ok (.if_icmp .eq 542, 3) := by decide +kernel
theorem dL_law_161 : decode cL_law 161 = .ok (.iconst 0, 1) := by decide +kernel
theorem dL_law_162 : decode cL_law 162 = .ok (.ireturn, 1) := by decide +kernel
theorem dL_law_163 : decode cL_law 163 = .ok (.aload_n 1, 1) := by decide +kernel
theorem dL_law_164 : decode cL_law 164 = .ok (.invokevirtual 18, 3) := by decide +kernel
theorem dL_law_167 : decode cL_law 167 = .ok (.aload_n 2, 1) := by decide +kernel
theorem dL_law_168 : decode cL_law 168 = .ok (.invokevirtual 22, 3) := by decide +kernel
theorem dL_law_171 : decode cL_law 171 = .ok (.if_icmp .eq 529, 3) := by decide +kernel
theorem dL_law_174 : decode cL_law 174 = .ok (.iconst 0, 1) := by decide +kernel
theorem dL_law_175 : decode cL_law 175 = .ok (.ireturn, 1) := by decide +kernel
theorem dL_law_176 : decode cL_law 176 = .ok (.aload_n 1, 1) := by decide +kernel
theorem dL_law_177 : decode cL_law 177 = .ok (.invokevirtual 23, 3) := by decide +kernel
theorem dL_law_180 : decode cL_law 180 = .ok (.aload_n 2, 1) := by decide +kernel
theorem dL_law_181 : decode cL_law 181 = .ok (.invokevirtual 26, 3) := by decide +kernel
theorem dL_law_184 : decode cL_law 184 = .ok (.if_icmp .eq 516, 3) := by decide +kernel
theorem dL_law_187 : decode cL_law 187 = .ok (.iconst 0, 1) := by decide +kernel
theorem dL_law_188 : decode cL_law 188 = .ok (.ireturn, 1) := by decide +kernel
theorem dL_law_189 : decode cL_law 189 = .ok (.aload_n 1, 1) := by decide +kernel
theorem dL_law_190 : decode cL_law 190 = .ok (.invokevirtual 27, 3) := by decide +kernel
theorem dL_law_193 : decode cL_law 193 = .ok (.aload_n 2, 1) := by decide +kernel
theorem dL_law_194 : decode cL_law 194 = .ok (.invokevirtual 30, 3) := by decide +kernel
theorem dL_law_197 : decode cL_law 197 = .ok (.if_icmp .eq 503, 3) := by decide +kernel
theorem dL_law_200 : decode cL_law 200 = .ok (.iconst 0, 1) := by decide +kernel
theorem dL_law_201 : decode cL_law 201 = .ok (.ireturn, 1) := by decide +kernel
theorem dL_law_202 : decode cL_law 202 = .ok (.aload_n 1, 1) := by decide +kernel
theorem dL_law_203 : decode cL_law 203 = .ok (.aload_n 0, 1) := by decide +kernel
theorem dL_law_204 : decode cL_law 204 = .ok (.iload_n 3, 1) := by decide +kernel
theorem dL_law_205 : decode cL_law 205 = .ok (.iconst 1, 1) := by decide +kernel
theorem dL_law_206 : decode cL_law 206 = .ok (.iadd, 1) := by decide +kernel
theorem dL_law_207 : decode cL_law 207 = .ok (.iaload, 1) := by decide +kernel
theorem dL_law_208 : decode cL_law 208 = .ok (.aload_n 0, 1) := by decide +kernel
theorem dL_law_209 : decode cL_law 209 = .ok (.iload_n 3, 1) := by decide +kernel
theorem dL_law_210 : decode cL_law 210 = .ok (.iconst 2, 1) := by decide +kernel
theorem dL_law_211 : decode cL_law 211 = .ok (.iadd, 1) := by decide +kernel
theorem dL_law_212 : decode cL_law 212 = .ok (.iaload, 1) := by decide +kernel
theorem dL_law_213 : decode cL_law 213 = .ok (.invokevirtual 31, 3) := by decide +kernel
theorem dL_law_216 : decode cL_law 216 = .ok (.aload_n 2, 1) := by decide +kernel
theorem dL_law_217 : decode cL_law 217 = .ok (.aload_n 0, 1) := by decide +kernel
theorem dL_law_218 : decode cL_law 218 = .ok (.iload_n 3, 1) := by decide +kernel
theorem dL_law_219 : decode cL_law 219 = .ok (.iconst 1, 1) := by decide +kernel
theorem dL_law_220 : decode cL_law 220 = .ok (.iadd, 1) := by decide +kernel
theorem dL_law_221 : decode cL_law 221 = .ok (.iaload, 1) := by decide +kernel
theorem dL_law_222 : decode cL_law 222 = .ok (.aload_n 0, 1) := by decide +kernel
theorem dL_law_223 : decode cL_law 223 = .ok (.iload_n 3, 1) := by decide +kernel
theorem dL_law_224 : decode cL_law 224 = .ok (.iconst 2, 1) := by decide +kernel
theorem dL_law_225 : decode cL_law 225 = .ok (.iadd, 1) := by decide +kernel
theorem dL_law_226 : decode cL_law 226 = .ok (.iaload, 1) := by decide +kernel
theorem dL_law_227 : decode cL_law 227 = .ok (.invokevirtual 35, 3) := by decide +kernel
theorem dL_law_230 : decode cL_law 230 = .ok (.if_icmp .eq 470, 3) := by decide +kernel
theorem dL_law_233 : decode cL_law 233 = .ok (.iconst 0, 1) := by decide +kernel
theorem dL_law_234 : decode cL_law 234 = .ok (.ireturn, 1) := by decide +kernel
theorem dL_law_235 : decode cL_law 235 = .ok (.aload_n 1, 1) := by decide +kernel
theorem dL_law_236 : decode cL_law 236 = .ok (.aload_n 0, 1) := by decide +kernel
theorem dL_law_237 : decode cL_law 237 = .ok (.iload_n 3, 1) := by decide +kernel
theorem dL_law_238 : decode cL_law 238 = .ok (.iconst 1, 1) := by decide +kernel
theorem dL_law_239 : decode cL_law 239 = .ok (.iadd, 1) := by decide +kernel
theorem dL_law_240 : decode cL_law 240 = .ok (.iaload, 1) := by decide +kernel
theorem dL_law_241 : decode cL_law 241 = .ok (.aload_n 0, 1) := by decide +kernel
theorem dL_law_242 : decode cL_law 242 = .ok (.iload_n 3, 1) := by decide +kernel
theorem dL_law_243 : decode cL_law 243 = .ok (.iconst 2, 1) := by decide +kernel
theorem dL_law_244 : decode cL_law 244 = .ok (.iadd, 1) := by decide +kernel
theorem dL_law_245 : decode cL_law 245 = .ok (.iaload, 1) := by decide +kernel
theorem dL_law_246 : decode cL_law 246 = .ok (.invokevirtual 36, 3) := by decide +kernel
theorem dL_law_249 : decode cL_law 249 = .ok (.aload_n 2, 1) := by decide +kernel
theorem dL_law_250 : decode cL_law 250 = .ok (.aload_n 0, 1) := by decide +kernel
theorem dL_law_251 : decode cL_law 251 = .ok (.iload_n 3, 1) := by decide +kernel
theorem dL_law_252 : decode cL_law 252 = .ok (.iconst 1, 1) := by decide +kernel
theorem dL_law_253 : decode cL_law 253 = .ok (.iadd, 1) := by decide +kernel
theorem dL_law_254 : decode cL_law 254 = .ok (.iaload, 1) := by decide +kernel
theorem dL_law_255 : decode cL_law 255 = .ok (.aload_n 0, 1) := by decide +kernel
theorem dL_law_256 : decode cL_law 256 = .ok (.iload_n 3, 1) := by decide +kernel
theorem dL_law_257 : decode cL_law 257 = .ok (.iconst 2, 1) := by decide +kernel
theorem dL_law_258 : decode cL_law 258 = .ok (.iadd, 1) := by decide +kernel
theorem dL_law_259 : decode cL_law 259 = .ok (.iaload, 1) := by decide +kernel
theorem dL_law_260 : decode cL_law 260 = .ok (.invokevirtual 39, 3) := by decide +kernel
theorem dL_law_263 : decode cL_law 263 = .ok (.if_icmp .eq 437, 3) := by decide +kernel
theorem dL_law_266 : decode cL_law 266 = .ok (.iconst 0, 1) := by decide +kernel
theorem dL_law_267 : decode cL_law 267 = .ok (.ireturn, 1) := by decide +kernel
theorem dL_law_268 : decode cL_law 268 = .ok (.aload_n 1, 1) := by decide +kernel
theorem dL_law_269 : decode cL_law 269 = .ok (.aload_n 0, 1) := by decide +kernel
theorem dL_law_270 : decode cL_law 270 = .ok (.iload_n 3, 1) := by decide +kernel
theorem dL_law_271 : decode cL_law 271 = .ok (.iconst 1, 1) := by decide +kernel
theorem dL_law_272 : decode cL_law 272 = .ok (.iadd, 1) := by decide +kernel
theorem dL_law_273 : decode cL_law 273 = .ok (.iaload, 1) := by decide +kernel
theorem dL_law_274 : decode cL_law 274 = .ok (.aload_n 0, 1) := by decide +kernel
theorem dL_law_275 : decode cL_law 275 = .ok (.iload_n 3, 1) := by decide +kernel
theorem dL_law_276 : decode cL_law 276 = .ok (.iconst 2, 1) := by decide +kernel
theorem dL_law_277 : decode cL_law 277 = .ok (.iadd, 1) := by decide +kernel
theorem dL_law_278 : decode cL_law 278 = .ok (.iaload, 1) := by decide +kernel
theorem dL_law_279 : decode cL_law 279 = .ok (.invokevirtual 40, 3) := by decide +kernel
theorem dL_law_282 : decode cL_law 282 = .ok (.aload_n 2, 1) := by decide +kernel
theorem dL_law_283 : decode cL_law 283 = .ok (.aload_n 0, 1) := by decide +kernel
theorem dL_law_284 : decode cL_law 284 = .ok (.iload_n 3, 1) := by decide +kernel
theorem dL_law_285 : decode cL_law 285 = .ok (.iconst 1, 1) := by decide +kernel
theorem dL_law_286 : decode cL_law 286 = .ok (.iadd, 1) := by decide +kernel
theorem dL_law_287 : decode cL_law 287 = .ok (.iaload, 1) := by decide +kernel
theorem dL_law_288 : decode cL_law 288 = .ok (.aload_n 0, 1) := by decide +kernel
theorem dL_law_289 : decode cL_law 289 = .ok (.iload_n 3, 1) := by decide +kernel
theorem dL_law_290 : decode cL_law 290 = .ok (.iconst 2, 1) := by decide +kernel
theorem dL_law_291 : decode cL_law 291 = .ok (.iadd, 1) := by decide +kernel
theorem dL_law_292 : decode cL_law 292 = .ok (.iaload, 1) := by decide +kernel
theorem dL_law_293 : decode cL_law 293 = .ok (.invokevirtual 43, 3) := by decide +kernel
theorem dL_law_296 : decode cL_law 296 = .ok (.if_icmp .eq 404, 3) := by decide +kernel
theorem dL_law_299 : decode cL_law 299 = .ok (.iconst 0, 1) := by decide +kernel
theorem dL_law_300 : decode cL_law 300 = .ok (.ireturn, 1) := by decide +kernel
theorem dL_law_301 : decode cL_law 301 = .ok (.aload_n 1, 1) := by decide +kernel
theorem dL_law_302 : decode cL_law 302 = .ok (.aload_n 0, 1) := by decide +kernel
theorem dL_law_303 : decode cL_law 303 = .ok (.iload_n 3, 1) := by decide +kernel
theorem dL_law_304 : decode cL_law 304 = .ok (.iconst 1, 1) := by decide +kernel
theorem dL_law_305 : decode cL_law 305 = .ok (.iadd, 1) := by decide +kernel
theorem dL_law_306 : decode cL_law 306 = .ok (.iaload, 1) := by decide +kernel
theorem dL_law_307 : decode cL_law 307 = .ok (.aload_n 0, 1) := by decide +kernel
theorem dL_law_308 : decode cL_law 308 = .ok (.iload_n 3, 1) := by decide +kernel
theorem dL_law_309 : decode cL_law 309 = .ok (.iconst 2, 1) := by decide +kernel
theorem dL_law_310 : decode cL_law 310 = .ok (.iadd, 1) := by decide +kernel
theorem dL_law_311 : decode cL_law 311 = .ok (.iaload, 1) := by decide +kernel
theorem dL_law_312 : decode cL_law 312 = .ok (.invokevirtual 44, 3) := by decide +kernel
theorem dL_law_315 : decode cL_law 315 = .ok (.aload_n 2, 1) := by decide +kernel
theorem dL_law_316 : decode cL_law 316 = .ok (.aload_n 0, 1) := by decide +kernel
theorem dL_law_317 : decode cL_law 317 = .ok (.iload_n 3, 1) := by decide +kernel
theorem dL_law_318 : decode cL_law 318 = .ok (.iconst 1, 1) := by decide +kernel
theorem dL_law_319 : decode cL_law 319 = .ok (.iadd, 1) := by decide +kernel
theorem dL_law_320 : decode cL_law 320 = .ok (.iaload, 1) := by decide +kernel
theorem dL_law_321 : decode cL_law 321 = .ok (.aload_n 0, 1) := by decide +kernel
theorem dL_law_322 : decode cL_law 322 = .ok (.iload_n 3, 1) := by decide +kernel
theorem dL_law_323 : decode cL_law 323 = .ok (.iconst 2, 1) := by decide +kernel
theorem dL_law_324 : decode cL_law 324 = .ok (.iadd, 1) := by decide +kernel
theorem dL_law_325 : decode cL_law 325 = .ok (.iaload, 1) := by decide +kernel
theorem dL_law_326 : decode cL_law 326 = .ok (.invokevirtual 47, 3) := by decide +kernel
theorem dL_law_329 : decode cL_law 329 = .ok (.if_icmp .eq 371, 3) := by decide +kernel
theorem dL_law_332 : decode cL_law 332 = .ok (.iconst 0, 1) := by decide +kernel
theorem dL_law_333 : decode cL_law 333 = .ok (.ireturn, 1) := by decide +kernel
theorem dL_law_334 : decode cL_law 334 = .ok (.aload_n 1, 1) := by decide +kernel
theorem dL_law_335 : decode cL_law 335 = .ok (.aload_n 0, 1) := by decide +kernel
theorem dL_law_336 : decode cL_law 336 = .ok (.iload_n 3, 1) := by decide +kernel
theorem dL_law_337 : decode cL_law 337 = .ok (.iconst 1, 1) := by decide +kernel
theorem dL_law_338 : decode cL_law 338 = .ok (.iadd, 1) := by decide +kernel
theorem dL_law_339 : decode cL_law 339 = .ok (.iaload, 1) := by decide +kernel
theorem dL_law_340 : decode cL_law 340 = .ok (.aload_n 0, 1) := by decide +kernel
theorem dL_law_341 : decode cL_law 341 = .ok (.iload_n 3, 1) := by decide +kernel
theorem dL_law_342 : decode cL_law 342 = .ok (.iconst 2, 1) := by decide +kernel
theorem dL_law_343 : decode cL_law 343 = .ok (.iadd, 1) := by decide +kernel
theorem dL_law_344 : decode cL_law 344 = .ok (.iaload, 1) := by decide +kernel
theorem dL_law_345 : decode cL_law 345 = .ok (.invokevirtual 48, 3) := by decide +kernel
theorem dL_law_348 : decode cL_law 348 = .ok (.aload_n 2, 1) := by decide +kernel
theorem dL_law_349 : decode cL_law 349 = .ok (.aload_n 0, 1) := by decide +kernel
theorem dL_law_350 : decode cL_law 350 = .ok (.iload_n 3, 1) := by decide +kernel
theorem dL_law_351 : decode cL_law 351 = .ok (.iconst 1, 1) := by decide +kernel
theorem dL_law_352 : decode cL_law 352 = .ok (.iadd, 1) := by decide +kernel
theorem dL_law_353 : decode cL_law 353 = .ok (.iaload, 1) := by decide +kernel
theorem dL_law_354 : decode cL_law 354 = .ok (.aload_n 0, 1) := by decide +kernel
theorem dL_law_355 : decode cL_law 355 = .ok (.iload_n 3, 1) := by decide +kernel
theorem dL_law_356 : decode cL_law 356 = .ok (.iconst 2, 1) := by decide +kernel
theorem dL_law_357 : decode cL_law 357 = .ok (.iadd, 1) := by decide +kernel
theorem dL_law_358 : decode cL_law 358 = .ok (.iaload, 1) := by decide +kernel
theorem dL_law_359 : decode cL_law 359 = .ok (.invokevirtual 51, 3) := by decide +kernel
theorem dL_law_362 : decode cL_law 362 = .ok (.if_icmp .eq 338, 3) := by decide +kernel
theorem dL_law_365 : decode cL_law 365 = .ok (.iconst 0, 1) := by decide +kernel
theorem dL_law_366 : decode cL_law 366 = .ok (.ireturn, 1) := by decide +kernel
theorem dL_law_367 : decode cL_law 367 = .ok (.aload_n 1, 1) := by decide +kernel
theorem dL_law_368 : decode cL_law 368 = .ok (.aload_n 0, 1) := by decide +kernel
theorem dL_law_369 : decode cL_law 369 = .ok (.iload_n 3, 1) := by decide +kernel
theorem dL_law_370 : decode cL_law 370 = .ok (.iconst 1, 1) := by decide +kernel
theorem dL_law_371 : decode cL_law 371 = .ok (.iadd, 1) := by decide +kernel
theorem dL_law_372 : decode cL_law 372 = .ok (.iaload, 1) := by decide +kernel
theorem dL_law_373 : decode cL_law 373 = .ok (.invokevirtual 52, 3) := by decide +kernel
theorem dL_law_376 : decode cL_law 376 = .ok (.aload_n 2, 1) := by decide +kernel
theorem dL_law_377 : decode cL_law 377 = .ok (.aload_n 0, 1) := by decide +kernel
theorem dL_law_378 : decode cL_law 378 = .ok (.iload_n 3, 1) := by decide +kernel
theorem dL_law_379 : decode cL_law 379 = .ok (.iconst 1, 1) := by decide +kernel
theorem dL_law_380 : decode cL_law 380 = .ok (.iadd, 1) := by decide +kernel
theorem dL_law_381 : decode cL_law 381 = .ok (.iaload, 1) := by decide +kernel
theorem dL_law_382 : decode cL_law 382 = .ok (.invokevirtual 55, 3) := by decide +kernel
theorem dL_law_385 : decode cL_law 385 = .ok (.if_icmp .eq 315, 3) := by decide +kernel
theorem dL_law_388 : decode cL_law 388 = .ok (.iconst 0, 1) := by decide +kernel
theorem dL_law_389 : decode cL_law 389 = .ok (.ireturn, 1) := by decide +kernel
theorem dL_law_390 : decode cL_law 390 = .ok (.aload_n 1, 1) := by decide +kernel
theorem dL_law_391 : decode cL_law 391 = .ok (.aload_n 0, 1) := by decide +kernel
theorem dL_law_392 : decode cL_law 392 = .ok (.iload_n 3, 1) := by decide +kernel
theorem dL_law_393 : decode cL_law 393 = .ok (.iconst 1, 1) := by decide +kernel
theorem dL_law_394 : decode cL_law 394 = .ok (.iadd, 1) := by decide +kernel
theorem dL_law_395 : decode cL_law 395 = .ok (.iaload, 1) := by decide +kernel
theorem dL_law_396 : decode cL_law 396 = .ok (.invokevirtual 56, 3) := by decide +kernel
theorem dL_law_399 : decode cL_law 399 = .ok (.aload_n 2, 1) := by decide +kernel
theorem dL_law_400 : decode cL_law 400 = .ok (.aload_n 0, 1) := by decide +kernel
theorem dL_law_401 : decode cL_law 401 = .ok (.iload_n 3, 1) := by decide +kernel
theorem dL_law_402 : decode cL_law 402 = .ok (.iconst 1, 1) := by decide +kernel
theorem dL_law_403 : decode cL_law 403 = .ok (.iadd, 1) := by decide +kernel
theorem dL_law_404 : decode cL_law 404 = .ok (.iaload, 1) := by decide +kernel
theorem dL_law_405 : decode cL_law 405 = .ok (.invokevirtual 59, 3) := by decide +kernel
theorem dL_law_408 : decode cL_law 408 = .ok (.if_icmp .eq 292, 3) := by decide +kernel
theorem dL_law_411 : decode cL_law 411 = .ok (.iconst 0, 1) := by decide +kernel
theorem dL_law_412 : decode cL_law 412 = .ok (.ireturn, 1) := by decide +kernel
theorem dL_law_413 : decode cL_law 413 = .ok (.aload_n 1, 1) := by decide +kernel
theorem dL_law_414 : decode cL_law 414 = .ok (.aload_n 0, 1) := by decide +kernel
theorem dL_law_415 : decode cL_law 415 = .ok (.iload_n 3, 1) := by decide +kernel
theorem dL_law_416 : decode cL_law 416 = .ok (.iconst 1, 1) := by decide +kernel
theorem dL_law_417 : decode cL_law 417 = .ok (.iadd, 1) := by decide +kernel
theorem dL_law_418 : decode cL_law 418 = .ok (.iaload, 1) := by decide +kernel
theorem dL_law_419 : decode cL_law 419 = .ok (.aload_n 0, 1) := by decide +kernel
theorem dL_law_420 : decode cL_law 420 = .ok (.iload_n 3, 1) := by decide +kernel
theorem dL_law_421 : decode cL_law 421 = .ok (.iconst 2, 1) := by decide +kernel
theorem dL_law_422 : decode cL_law 422 = .ok (.iadd, 1) := by decide +kernel
theorem dL_law_423 : decode cL_law 423 = .ok (.iaload, 1) := by decide +kernel
theorem dL_law_424 : decode cL_law 424 = .ok (.invokevirtual 60, 3) := by decide +kernel
theorem dL_law_427 : decode cL_law 427 = .ok (.aload_n 2, 1) := by decide +kernel
theorem dL_law_428 : decode cL_law 428 = .ok (.aload_n 0, 1) := by decide +kernel
theorem dL_law_429 : decode cL_law 429 = .ok (.iload_n 3, 1) := by decide +kernel
theorem dL_law_430 : decode cL_law 430 = .ok (.iconst 1, 1) := by decide +kernel
theorem dL_law_431 : decode cL_law 431 = .ok (.iadd, 1) := by decide +kernel
theorem dL_law_432 : decode cL_law 432 = .ok (.iaload, 1) := by decide +kernel
theorem dL_law_433 : decode cL_law 433 = .ok (.aload_n 0, 1) := by decide +kernel
theorem dL_law_434 : decode cL_law 434 = .ok (.iload_n 3, 1) := by decide +kernel
theorem dL_law_435 : decode cL_law 435 = .ok (.iconst 2, 1) := by decide +kernel
theorem dL_law_436 : decode cL_law 436 = .ok (.iadd, 1) := by decide +kernel
theorem dL_law_437 : decode cL_law 437 = .ok (.iaload, 1) := by decide +kernel
theorem dL_law_438 : decode cL_law 438 = .ok (.invokevirtual 63, 3) := by decide +kernel
theorem dL_law_441 : decode cL_law 441 = .ok (.if_icmp .eq 259, 3) := by decide +kernel
theorem dL_law_444 : decode cL_law 444 = .ok (.iconst 0, 1) := by decide +kernel
theorem dL_law_445 : decode cL_law 445 = .ok (.ireturn, 1) := by decide +kernel
theorem dL_law_446 : decode cL_law 446 = .ok (.aload_n 1, 1) := by decide +kernel
theorem dL_law_447 : decode cL_law 447 = .ok (.aload_n 0, 1) := by decide +kernel
theorem dL_law_448 : decode cL_law 448 = .ok (.iload_n 3, 1) := by decide +kernel
theorem dL_law_449 : decode cL_law 449 = .ok (.iconst 1, 1) := by decide +kernel
theorem dL_law_450 : decode cL_law 450 = .ok (.iadd, 1) := by decide +kernel
theorem dL_law_451 : decode cL_law 451 = .ok (.iaload, 1) := by decide +kernel
theorem dL_law_452 : decode cL_law 452 = .ok (.aload_n 0, 1) := by decide +kernel
theorem dL_law_453 : decode cL_law 453 = .ok (.iload_n 3, 1) := by decide +kernel
theorem dL_law_454 : decode cL_law 454 = .ok (.iconst 2, 1) := by decide +kernel
theorem dL_law_455 : decode cL_law 455 = .ok (.iadd, 1) := by decide +kernel
theorem dL_law_456 : decode cL_law 456 = .ok (.iaload, 1) := by decide +kernel
theorem dL_law_457 : decode cL_law 457 = .ok (.aload_n 0, 1) := by decide +kernel
theorem dL_law_458 : decode cL_law 458 = .ok (.iload_n 3, 1) := by decide +kernel
theorem dL_law_459 : decode cL_law 459 = .ok (.iconst 3, 1) := by decide +kernel
theorem dL_law_460 : decode cL_law 460 = .ok (.iadd, 1) := by decide +kernel
theorem dL_law_461 : decode cL_law 461 = .ok (.iaload, 1) := by decide +kernel
theorem dL_law_462 : decode cL_law 462 = .ok (.invokevirtual 64, 3) := by decide +kernel
theorem dL_law_465 : decode cL_law 465 = .ok (.aload_n 2, 1) := by decide +kernel
theorem dL_law_466 : decode cL_law 466 = .ok (.aload_n 0, 1) := by decide +kernel
theorem dL_law_467 : decode cL_law 467 = .ok (.iload_n 3, 1) := by decide +kernel
theorem dL_law_468 : decode cL_law 468 = .ok (.iconst 1, 1) := by decide +kernel
theorem dL_law_469 : decode cL_law 469 = .ok (.iadd, 1) := by decide +kernel
theorem dL_law_470 : decode cL_law 470 = .ok (.iaload, 1) := by decide +kernel
theorem dL_law_471 : decode cL_law 471 = .ok (.aload_n 0, 1) := by decide +kernel
theorem dL_law_472 : decode cL_law 472 = .ok (.iload_n 3, 1) := by decide +kernel
theorem dL_law_473 : decode cL_law 473 = .ok (.iconst 2, 1) := by decide +kernel
theorem dL_law_474 : decode cL_law 474 = .ok (.iadd, 1) := by decide +kernel
theorem dL_law_475 : decode cL_law 475 = .ok (.iaload, 1) := by decide +kernel
theorem dL_law_476 : decode cL_law 476 = .ok (.aload_n 0, 1) := by decide +kernel
theorem dL_law_477 : decode cL_law 477 = .ok (.iload_n 3, 1) := by decide +kernel
theorem dL_law_478 : decode cL_law 478 = .ok (.iconst 3, 1) := by decide +kernel
theorem dL_law_479 : decode cL_law 479 = .ok (.iadd, 1) := by decide +kernel
theorem dL_law_480 : decode cL_law 480 = .ok (.iaload, 1) := by decide +kernel
theorem dL_law_481 : decode cL_law 481 = .ok (.invokevirtual 68, 3) := by decide +kernel
theorem dL_law_484 : decode cL_law 484 = .ok (.if_icmp .eq 216, 3) := by decide +kernel
theorem dL_law_487 : decode cL_law 487 = .ok (.iconst 0, 1) := by decide +kernel
theorem dL_law_488 : decode cL_law 488 = .ok (.ireturn, 1) := by decide +kernel
theorem dL_law_489 : decode cL_law 489 = .ok (.aload_n 1, 1) := by decide +kernel
theorem dL_law_490 : decode cL_law 490 = .ok (.aload_n 0, 1) := by decide +kernel
theorem dL_law_491 : decode cL_law 491 = .ok (.iload_n 3, 1) := by decide +kernel
theorem dL_law_492 : decode cL_law 492 = .ok (.iconst 1, 1) := by decide +kernel
theorem dL_law_493 : decode cL_law 493 = .ok (.iadd, 1) := by decide +kernel
theorem dL_law_494 : decode cL_law 494 = .ok (.iaload, 1) := by decide +kernel
theorem dL_law_495 : decode cL_law 495 = .ok (.invokevirtual 69, 3) := by decide +kernel
theorem dL_law_498 : decode cL_law 498 = .ok (.aload_n 2, 1) := by decide +kernel
theorem dL_law_499 : decode cL_law 499 = .ok (.aload_n 0, 1) := by decide +kernel
theorem dL_law_500 : decode cL_law 500 = .ok (.iload_n 3, 1) := by decide +kernel
theorem dL_law_501 : decode cL_law 501 = .ok (.iconst 1, 1) := by decide +kernel
theorem dL_law_502 : decode cL_law 502 = .ok (.iadd, 1) := by decide +kernel
theorem dL_law_503 : decode cL_law 503 = .ok (.iaload, 1) := by decide +kernel
theorem dL_law_504 : decode cL_law 504 = .ok (.invokevirtual 72, 3) := by decide +kernel
theorem dL_law_507 : decode cL_law 507 = .ok (.if_icmp .eq 193, 3) := by decide +kernel
theorem dL_law_510 : decode cL_law 510 = .ok (.iconst 0, 1) := by decide +kernel
theorem dL_law_511 : decode cL_law 511 = .ok (.ireturn, 1) := by decide +kernel
theorem dL_law_512 : decode cL_law 512 = .ok (.aload_n 1, 1) := by decide +kernel
theorem dL_law_513 : decode cL_law 513 = .ok (.aload_n 0, 1) := by decide +kernel
theorem dL_law_514 : decode cL_law 514 = .ok (.iload_n 3, 1) := by decide +kernel
theorem dL_law_515 : decode cL_law 515 = .ok (.iconst 1, 1) := by decide +kernel
theorem dL_law_516 : decode cL_law 516 = .ok (.iadd, 1) := by decide +kernel
theorem dL_law_517 : decode cL_law 517 = .ok (.iaload, 1) := by decide +kernel
theorem dL_law_518 : decode cL_law 518 = .ok (.aload_n 0, 1) := by decide +kernel
theorem dL_law_519 : decode cL_law 519 = .ok (.iload_n 3, 1) := by decide +kernel
theorem dL_law_520 : decode cL_law 520 = .ok (.iconst 2, 1) := by decide +kernel
theorem dL_law_521 : decode cL_law 521 = .ok (.iadd, 1) := by decide +kernel
theorem dL_law_522 : decode cL_law 522 = .ok (.iaload, 1) := by decide +kernel
theorem dL_law_523 : decode cL_law 523 = .ok (.invokevirtual 73, 3) := by decide +kernel
theorem dL_law_526 : decode cL_law 526 = .ok (.aload_n 2, 1) := by decide +kernel
theorem dL_law_527 : decode cL_law 527 = .ok (.aload_n 0, 1) := by decide +kernel
theorem dL_law_528 : decode cL_law 528 = .ok (.iload_n 3, 1) := by decide +kernel
theorem dL_law_529 : decode cL_law 529 = .ok (.iconst 1, 1) := by decide +kernel
theorem dL_law_530 : decode cL_law 530 = .ok (.iadd, 1) := by decide +kernel
theorem dL_law_531 : decode cL_law 531 = .ok (.iaload, 1) := by decide +kernel
theorem dL_law_532 : decode cL_law 532 = .ok (.aload_n 0, 1) := by decide +kernel
theorem dL_law_533 : decode cL_law 533 = .ok (.iload_n 3, 1) := by decide +kernel
theorem dL_law_534 : decode cL_law 534 = .ok (.iconst 2, 1) := by decide +kernel
theorem dL_law_535 : decode cL_law 535 = .ok (.iadd, 1) := by decide +kernel
theorem dL_law_536 : decode cL_law 536 = .ok (.iaload, 1) := by decide +kernel
theorem dL_law_537 : decode cL_law 537 = .ok (.invokevirtual 76, 3) := by decide +kernel
theorem dL_law_540 : decode cL_law 540 = .ok (.if_icmp .eq 160, 3) := by decide +kernel
theorem dL_law_543 : decode cL_law 543 = .ok (.iconst 0, 1) := by decide +kernel
theorem dL_law_544 : decode cL_law 544 = .ok (.ireturn, 1) := by decide +kernel
theorem dL_law_545 : decode cL_law 545 = .ok (.aload_n 1, 1) := by decide +kernel
theorem dL_law_546 : decode cL_law 546 = .ok (.invokevirtual 77, 3) := by decide +kernel
theorem dL_law_549 : decode cL_law 549 = .ok (.aload_n 2, 1) := by decide +kernel
theorem dL_law_550 : decode cL_law 550 = .ok (.invokevirtual 80, 3) := by decide +kernel
theorem dL_law_553 : decode cL_law 553 = .ok (.if_icmp .eq 147, 3) := by decide +kernel
theorem dL_law_556 : decode cL_law 556 = .ok (.iconst 0, 1) := by decide +kernel
theorem dL_law_557 : decode cL_law 557 = .ok (.ireturn, 1) := by decide +kernel
theorem dL_law_558 : decode cL_law 558 = .ok (.aload_n 1, 1) := by decide +kernel
theorem dL_law_559 : decode cL_law 559 = .ok (.invokevirtual 81, 3) := by decide +kernel
theorem dL_law_562 : decode cL_law 562 = .ok (.aload_n 2, 1) := by decide +kernel
theorem dL_law_563 : decode cL_law 563 = .ok (.invokevirtual 84, 3) := by decide +kernel
theorem dL_law_566 : decode cL_law 566 = .ok (.if_icmp .eq 134, 3) := by decide +kernel
theorem dL_law_569 : decode cL_law 569 = .ok (.iconst 0, 1) := by decide +kernel
theorem dL_law_570 : decode cL_law 570 = .ok (.ireturn, 1) := by decide +kernel
theorem dL_law_571 : decode cL_law 571 = .ok (.aload_n 1, 1) := by decide +kernel
theorem dL_law_572 : decode cL_law 572 = .ok (.aload_n 0, 1) := by decide +kernel
theorem dL_law_573 : decode cL_law 573 = .ok (.iload_n 3, 1) := by decide +kernel
theorem dL_law_574 : decode cL_law 574 = .ok (.iconst 1, 1) := by decide +kernel
theorem dL_law_575 : decode cL_law 575 = .ok (.iadd, 1) := by decide +kernel
theorem dL_law_576 : decode cL_law 576 = .ok (.iaload, 1) := by decide +kernel
theorem dL_law_577 : decode cL_law 577 = .ok (.invokevirtual 85, 3) := by decide +kernel
theorem dL_law_580 : decode cL_law 580 = .ok (.aload_n 2, 1) := by decide +kernel
theorem dL_law_581 : decode cL_law 581 = .ok (.aload_n 0, 1) := by decide +kernel
theorem dL_law_582 : decode cL_law 582 = .ok (.iload_n 3, 1) := by decide +kernel
theorem dL_law_583 : decode cL_law 583 = .ok (.iconst 1, 1) := by decide +kernel
theorem dL_law_584 : decode cL_law 584 = .ok (.iadd, 1) := by decide +kernel
theorem dL_law_585 : decode cL_law 585 = .ok (.iaload, 1) := by decide +kernel
theorem dL_law_586 : decode cL_law 586 = .ok (.invokevirtual 88, 3) := by decide +kernel
theorem dL_law_589 : decode cL_law 589 = .ok (.if_icmp .eq 111, 3) := by decide +kernel
theorem dL_law_592 : decode cL_law 592 = .ok (.iconst 0, 1) := by decide +kernel
theorem dL_law_593 : decode cL_law 593 = .ok (.ireturn, 1) := by decide +kernel
theorem dL_law_594 : decode cL_law 594 = .ok (.aload_n 1, 1) := by decide +kernel
theorem dL_law_595 : decode cL_law 595 = .ok (.aload_n 0, 1) := by decide +kernel
theorem dL_law_596 : decode cL_law 596 = .ok (.iload_n 3, 1) := by decide +kernel
theorem dL_law_597 : decode cL_law 597 = .ok (.iconst 1, 1) := by decide +kernel
theorem dL_law_598 : decode cL_law 598 = .ok (.iadd, 1) := by decide +kernel
theorem dL_law_599 : decode cL_law 599 = .ok (.iaload, 1) := by decide +kernel
theorem dL_law_600 : decode cL_law 600 = .ok (.aload_n 0, 1) := by decide +kernel
theorem dL_law_601 : decode cL_law 601 = .ok (.iload_n 3, 1) := by decide +kernel
theorem dL_law_602 : decode cL_law 602 = .ok (.iconst 2, 1) := by decide +kernel
theorem dL_law_603 : decode cL_law 603 = .ok (.iadd, 1) := by decide +kernel
theorem dL_law_604 : decode cL_law 604 = .ok (.iaload, 1) := by decide +kernel
theorem dL_law_605 : decode cL_law 605 = .ok (.aload_n 0, 1) := by decide +kernel
theorem dL_law_606 : decode cL_law 606 = .ok (.iload_n 3, 1) := by decide +kernel
theorem dL_law_607 : decode cL_law 607 = .ok (.iconst 3, 1) := by decide +kernel
theorem dL_law_608 : decode cL_law 608 = .ok (.iadd, 1) := by decide +kernel
theorem dL_law_609 : decode cL_law 609 = .ok (.iaload, 1) := by decide +kernel
theorem dL_law_610 : decode cL_law 610 = .ok (.invokevirtual 89, 3) := by decide +kernel
theorem dL_law_613 : decode cL_law 613 = .ok (.aload_n 2, 1) := by decide +kernel
theorem dL_law_614 : decode cL_law 614 = .ok (.aload_n 0, 1) := by decide +kernel
theorem dL_law_615 : decode cL_law 615 = .ok (.iload_n 3, 1) := by decide +kernel
theorem dL_law_616 : decode cL_law 616 = .ok (.iconst 1, 1) := by decide +kernel
theorem dL_law_617 : decode cL_law 617 = .ok (.iadd, 1) := by decide +kernel
theorem dL_law_618 : decode cL_law 618 = .ok (.iaload, 1) := by decide +kernel
theorem dL_law_619 : decode cL_law 619 = .ok (.aload_n 0, 1) := by decide +kernel
theorem dL_law_620 : decode cL_law 620 = .ok (.iload_n 3, 1) := by decide +kernel
theorem dL_law_621 : decode cL_law 621 = .ok (.iconst 2, 1) := by decide +kernel
theorem dL_law_622 : decode cL_law 622 = .ok (.iadd, 1) := by decide +kernel
theorem dL_law_623 : decode cL_law 623 = .ok (.iaload, 1) := by decide +kernel
theorem dL_law_624 : decode cL_law 624 = .ok (.aload_n 0, 1) := by decide +kernel
theorem dL_law_625 : decode cL_law 625 = .ok (.iload_n 3, 1) := by decide +kernel
theorem dL_law_626 : decode cL_law 626 = .ok (.iconst 3, 1) := by decide +kernel
theorem dL_law_627 : decode cL_law 627 = .ok (.iadd, 1) := by decide +kernel
theorem dL_law_628 : decode cL_law 628 = .ok (.iaload, 1) := by decide +kernel
theorem dL_law_629 : decode cL_law 629 = .ok (.invokevirtual 92, 3) := by decide +kernel
theorem dL_law_632 : decode cL_law 632 = .ok (.if_icmp .eq 68, 3) := by decide +kernel
theorem dL_law_635 : decode cL_law 635 = .ok (.iconst 0, 1) := by decide +kernel
theorem dL_law_636 : decode cL_law 636 = .ok (.ireturn, 1) := by decide +kernel
theorem dL_law_637 : decode cL_law 637 = .ok (.aload_n 1, 1) := by decide +kernel
theorem dL_law_638 : decode cL_law 638 = .ok (.invokevirtual 93, 3) := by decide +kernel
theorem dL_law_641 : decode cL_law 641 = .ok (.aload_n 2, 1) := by decide +kernel
theorem dL_law_642 : decode cL_law 642 = .ok (.invokevirtual 96, 3) := by decide +kernel
theorem dL_law_645 : decode cL_law 645 = .ok (.if_icmp .eq 55, 3) := by decide +kernel
theorem dL_law_648 : decode cL_law 648 = .ok (.iconst 0, 1) := by decide +kernel
theorem dL_law_649 : decode cL_law 649 = .ok (.ireturn, 1) := by decide +kernel
theorem dL_law_650 : decode cL_law 650 = .ok (.aload_n 1, 1) := by decide +kernel
theorem dL_law_651 : decode cL_law 651 = .ok (.invokevirtual 97, 3) := by decide +kernel
theorem dL_law_654 : decode cL_law 654 = .ok (.aload_n 2, 1) := by decide +kernel
theorem dL_law_655 : decode cL_law 655 = .ok (.invokevirtual 100, 3) := by decide +kernel
theorem dL_law_658 : decode cL_law 658 = .ok (.if_icmp .eq 42, 3) := by decide +kernel
theorem dL_law_661 : decode cL_law 661 = .ok (.iconst 0, 1) := by decide +kernel
theorem dL_law_662 : decode cL_law 662 = .ok (.ireturn, 1) := by decide +kernel
theorem dL_law_663 : decode cL_law 663 = .ok (.aload_n 1, 1) := by decide +kernel
theorem dL_law_664 : decode cL_law 664 = .ok (.aload_n 0, 1) := by decide +kernel
theorem dL_law_665 : decode cL_law 665 = .ok (.iload_n 3, 1) := by decide +kernel
theorem dL_law_666 : decode cL_law 666 = .ok (.iconst 1, 1) := by decide +kernel
theorem dL_law_667 : decode cL_law 667 = .ok (.iadd, 1) := by decide +kernel
theorem dL_law_668 : decode cL_law 668 = .ok (.iaload, 1) := by decide +kernel
theorem dL_law_669 : decode cL_law 669 = .ok (.invokevirtual 101, 3) := by decide +kernel
theorem dL_law_672 : decode cL_law 672 = .ok (.aload_n 2, 1) := by decide +kernel
theorem dL_law_673 : decode cL_law 673 = .ok (.aload_n 0, 1) := by decide +kernel
theorem dL_law_674 : decode cL_law 674 = .ok (.iload_n 3, 1) := by decide +kernel
theorem dL_law_675 : decode cL_law 675 = .ok (.iconst 1, 1) := by decide +kernel
theorem dL_law_676 : decode cL_law 676 = .ok (.iadd, 1) := by decide +kernel
theorem dL_law_677 : decode cL_law 677 = .ok (.iaload, 1) := by decide +kernel
theorem dL_law_678 : decode cL_law 678 = .ok (.invokevirtual 104, 3) := by decide +kernel
theorem dL_law_681 : decode cL_law 681 = .ok (.if_icmp .eq 19, 3) := by decide +kernel
theorem dL_law_684 : decode cL_law 684 = .ok (.iconst 0, 1) := by decide +kernel
theorem dL_law_685 : decode cL_law 685 = .ok (.ireturn, 1) := by decide +kernel
theorem dL_law_686 : decode cL_law 686 = .ok (.aload_n 1, 1) := by decide +kernel
theorem dL_law_687 : decode cL_law 687 = .ok (.invokevirtual 105, 3) := by decide +kernel
theorem dL_law_690 : decode cL_law 690 = .ok (.aload_n 2, 1) := by decide +kernel
theorem dL_law_691 : decode cL_law 691 = .ok (.invokevirtual 109, 3) := by decide +kernel
theorem dL_law_694 : decode cL_law 694 = .ok (.lcmp, 1) := by decide +kernel
theorem dL_law_695 : decode cL_law 695 = .ok (.ifCond .eq 5, 3) := by decide +kernel
theorem dL_law_698 : decode cL_law 698 = .ok (.iconst 0, 1) := by decide +kernel
theorem dL_law_699 : decode cL_law 699 = .ok (.ireturn, 1) := by decide +kernel
theorem dL_law_700 : decode cL_law 700 = .ok (.iinc 3 4, 3) := by decide +kernel
theorem dL_law_703 : decode cL_law 703 = .ok (.goto (-685), 3) := by decide +kernel
theorem dL_law_706 : decode cL_law 706 = .ok (.iconst 1, 1) := by decide +kernel
theorem dL_law_707 : decode cL_law 707 = .ok (.ireturn, 1) := by decide +kernel
end
section
/-! THE WORLDS: a fixed row of N cells, each at an address of its own (ad k); what is in them is three tables of numbers (ints, references as numbers of cells, longs), read and written by cell and place. T says what a cell looks like. -/
abbrev gw_S : Type := (Nat → Nat → Int32) × (Nat → Nat → Nat) × (Nat → Nat → Int64)
abbrev gw_G : Type := ClassId × ClassId × ClassId × ClassId
abbrev gw_T : Type := Nat → (Nat → Int32) → (Nat → Nat) → (Nat → Int64) → va_E
def rdI (s : gw_S) (k j : Nat) : Int32 := s.1 k j
def rdR (s : gw_S) (k j : Nat) : Nat := s.2.1 k j
def rdL (s : gw_S) (k j : Nat) : Int64 := s.2.2 k j
def gw_upR (f : Nat → Nat) (j v : Nat) : Nat → Nat := fun i => if i = j then v else f i
def wrI (s : gw_S) (k j : Nat) (v : Int32) : gw_S := (fun a => if a = k then upd (s.1 k) j v else s.1 a, s.2)
def wrR (s : gw_S) (k j : Nat) (v : Nat) : gw_S := (s.1, fun a => if a = k then gw_upR (s.2.1 k) j v else s.2.1 a, s.2.2)
def wrL (s : gw_S) (k j : Nat) (v : Int64) : gw_S := (s.1, s.2.1, fun a => if a = k then vp_updL (s.2.2 k) j v else s.2.2 a)
theorem wrI_self (s : gw_S) (k j : Nat) (v : Int32) : (wrI s k j v).1 k = upd (s.1 k) j v := by simp [wrI]
theorem wrR_self (s : gw_S) (k j : Nat) (v : Nat) : (wrR s k j v).2.1 k = gw_upR (s.2.1 k) j v := by simp [wrR]
theorem wrL_self (s : gw_S) (k j : Nat) (v : Int64) : (wrL s k j v).2.2 k = vp_updL (s.2.2 k) j v := by simp [wrL]
theorem wrI_off (s : gw_S) (k j : Nat) (v : Int32) : ∀ a, a ≠ k → (wrI s k j v).1 a = s.1 a ∧ (wrI s k j v).2.1 a = s.2.1 a ∧ (wrI s k j v).2.2 a = s.2.2 a := fun a h => ⟨by simp [wrI, h], rfl, rfl⟩
theorem wrR_off (s : gw_S) (k j : Nat) (v : Nat) : ∀ a, a ≠ k → (wrR s k j v).1 a = s.1 a ∧ (wrR s k j v).2.1 a = s.2.1 a ∧ (wrR s k j v).2.2 a = s.2.2 a := fun a h => ⟨rfl, by simp [wrR, h], rfl⟩
theorem wrL_off (s : gw_S) (k j : Nat) (v : Int64) : ∀ a, a ≠ k → (wrL s k j v).1 a = s.1 a ∧ (wrL s k j v).2.1 a = s.2.1 a ∧ (wrL s k j v).2.2 a = s.2.2 a := fun a h => ⟨rfl, rfl, by simp [wrL, h]⟩
/-- the row of cells -/
def gw_w (T : gw_T) (N : Nat) (ad : Nat → Nat) (s : gw_S) : va_W := (List.range N).map (fun k => (ad k, T k (s.1 k) (s.2.1 k) (s.2.2 k)))
theorem gw_at {T : gw_T} {N : Nat} {ad : Nat → Nat} {s : gw_S} {k : Nat} (hk : k < N) : (gw_w T N ad s)[k]? = some (ad k, T k (s.1 k) (s.2.1 k) (s.2.2 k)) := by simp [gw_w, hk]
theorem gw_at_inv {T : gw_T} {N : Nat} {ad : Nat → Nat} {s : gw_S} {k : Nat} {q : Nat × va_E} (h : (gw_w T N ad s)[k]? = some q) : k < N ∧ q = (ad k, T k (s.1 k) (s.2.1 k) (s.2.2 k)) := by
  have hk : k < N := by
    have := (List.getElem?_eq_some_iff.mp h).1
    simpa [gw_w] using this
  rw [gw_at hk] at h
  exact ⟨hk, (Option.some.inj h).symm⟩
theorem gw_set {T : gw_T} {N : Nat} {ad : Nat → Nat} {s s' : gw_S} {k : Nat} (h : ∀ a, a ≠ k → s'.1 a = s.1 a ∧ s'.2.1 a = s.2.1 a ∧ s'.2.2 a = s.2.2 a) : (gw_w T N ad s).set k (ad k, T k (s'.1 k) (s'.2.1 k) (s'.2.2 k)) = gw_w T N ad s' := by
  apply List.ext_getElem?
  intro i
  by_cases hi : i < N
  · rw [gw_at hi]
    by_cases hik : i = k
    · subst hik
      rw [List.getElem?_set_self (by simpa [gw_w] using hi)]
    · rw [List.getElem?_set_ne (Ne.symm hik), gw_at hi, (h i hik).1, (h i hik).2.1, (h i hik).2.2]
  · rw [List.getElem?_eq_none (by simp [gw_w]; omega), List.getElem?_eq_none (by simp [gw_w]; omega)]
/-- the addresses are apart, and in A -/
def gw_D (A : Nat → Prop) (N : Nat) (ad : Nat → Nat) : Prop := (∀ i j, i < N → j < N → ad i = ad j → i = j) ∧ ∀ i, i < N → A (ad i)
theorem gw_D.va {A : Nat → Prop} {N : Nat} {ad : Nat → Nat} (h : gw_D A N ad) {T : gw_T} {s : gw_S} : va_D A (gw_w T N ad s) := by
  refine ⟨fun i j p q hi hj e => ?_, fun k q hk => ?_⟩
  · obtain ⟨h1, rfl⟩ := gw_at_inv hi
    obtain ⟨h2, rfl⟩ := gw_at_inv hj
    exact h.1 i j h1 h2 e
  · obtain ⟨h1, rfl⟩ := gw_at_inv hk
    exact h.2 k h1
/-- an index in its row -/
def gw_ix (i : Int32) (n : Nat) : Bool := decide (¬ (i < 0 ∨ n ≤ i.toNatClampNeg))
theorem gw_ix_in {i : Int32} {n : Nat} (h : gw_ix i n = true) : vp_in i n := of_decide_eq_true h
/-- a boolean -/
def gw_bl (x : Int32) : Bool := decide (x = 0) || decide (x = 1)
theorem gw_bl_or {x : Int32} (h : gw_bl x = true) : x = 0 ∨ x = 1 := by
  simp [gw_bl] at h; exact h
def gw_gi (j : Nat) : Int32 := match j with
  | 0 => 0
  | 1 => 1
  | 2 => -2
  | 3 => -1
  | _ => -2
def gw_grips : Nat → Value := fun j => .int (gw_gi j)
abbrev gw_tys (g : gw_G) : List (ClassId × FieldType) := [(g.1, .int), (g.2.1, .boolean), (g.2.2.1, .byte), (g.2.2.2, .object RX3)]
/-- what stays true of the machine: classes and arrays as the tables have them, GRIPS, the nest mates' links -/
def gw_F (D : va_G) (g : gw_G) (tG : Nat) (A : Nat → Prop) (U : State) : Prop :=
  va_K D vwCl (gw_tys g) U ∧ va_Z "ThrownSacks" "GRIPS" "[I" (.ref tG) A U U.heap ∧ va_T .int tG 5 gw_grips A U U.heap ∧ va_Nw (.methodLinkNest RX0 30 yX7_costOf "ThrownSacks") U ∧ va_Nw (.methodLinkNest RX0 34 yX7_carryTenths "ThrownSacks") U ∧ va_Nw (.methodLinkNest RX5 52 yX7_nextTo "ThrownSacks") U ∧ va_Nw (.methodLinkNest RX5 59 yX7_tenthsOf "ThrownSacks") U
def gw_E (p : Program) (s : State) (m : MethodId) (args : Array Value) (c : Code) (cc : ByteArray) (nL : Nat) (Ts : List Cond) (own : String) (D : va_G) (g : gw_G) (tG N : Nat) (ad : Nat → Nat) (A : Nat → Prop) : Prop :=
  CallFix p m c cc nL s args Ts own ∧ gw_F D g tG A s ∧ gw_D A N ad
def gw_I (D : va_G) (T : gw_T) (N : Nat) (ad : Nat → Nat) (A : Nat → Prop) (H0 : Heap) (st : gw_S) (H : Heap) (locs : List Loc) : Prop := va_P D vwCl (gw_w T N ad st) H ∧ va_S A H0 H locs
/-- a contract's start and end -/
def gw_Pc (D : va_G) (g : gw_G) (tG : Nat) (T : gw_T) (N : Nat) (ad : Nat → Nat) (A : Nat → Prop) (av : List Value) (s0 : gw_S) : Array Value → State → Prop := va_Pc av (fun U => gw_F D g tG A U ∧ va_P D vwCl (gw_w T N ad s0) U.heap)
def gw_B (D : va_G) (T : gw_T) (N : Nat) (ad : Nat → Nat) (s' : gw_S) (t : State) : Prop := va_P D vwCl (gw_w T N ad s') t.heap
def gw_Qi (D : va_G) (T : gw_T) (N : Nat) (ad : Nat → Nat) (A : Nat → Prop) (r0 : Int32) (s' : gw_S) : Array Value → State → Outcome → State → Prop := va_Qi (fun (r : Int32) (u : gw_S) => r = r0 ∧ u = s') (gw_B D T N ad) A
def gw_Ql (D : va_G) (T : gw_T) (N : Nat) (ad : Nat → Nat) (A : Nat → Prop) (r0 : Int64) (s' : gw_S) : Array Value → State → Outcome → State → Prop := va_Ql (fun (r : Int64) (u : gw_S) => r = r0 ∧ u = s') (gw_B D T N ad) A
def gw_Qv (D : va_G) (T : gw_T) (N : Nat) (ad : Nat → Nat) (A : Nat → Prop) (s' : gw_S) : Array Value → State → Outcome → State → Prop := va_Qv (fun (u : gw_S) => u = s') (gw_B D T N ad) A
/-- functions read off the code, a step each -/
def gw_nm {α β : Type} (a : α) (f : α → β) : β := f a
theorem gw_nmE {α β : Type} {a : α} {f : α → β} {r : β} (h : gw_nm a f = r) : ∃ x, x = a ∧ f x = r := ⟨a, rfl, h⟩
theorem gw_bdE {α β : Type} {x : Option α} {f : α → Option β} {r : β} (h : x.bind f = some r) : ∃ a, x = some a ∧ f a = some r := Option.bind_eq_some_iff.mp h
theorem gw_if1 {c : Prop} [Decidable c] {α : Type} {A B r : α} (h : c) (hF : (if c then A else B) = r) : A = r := (if_pos h).symm.trans hF
theorem gw_if0 {c : Prop} [Decidable c] {α : Type} {A B r : α} (h : ¬ c) (hF : (if c then A else B) = r) : B = r := (if_neg h).symm.trans hF
theorem gw_ifn {c : Prop} [Decidable c] {α : Type} {A : Option α} {r : α} (hF : (if c then A else none) = some r) : c ∧ A = some r := by
  by_cases h : c
  · exact ⟨h, (if_pos h).symm.trans hF⟩
  · rw [if_neg h] at hF; cases hF
theorem gw_ifz {c : Prop} [Decidable c] {α : Type} {A : Option α} {r : α} (hF : (if c then none else A) = some r) : ¬ c ∧ A = some r := by
  by_cases h : c
  · rw [if_pos h] at hF; cases hF
  · exact ⟨h, (if_neg h).symm.trans hF⟩
def gw_b2 {α β γ : Type} (x : Option (α × β)) (f : α → β → Option γ) : Option γ := x.bind (fun q => f q.1 q.2)
theorem gw_b2E {α β γ : Type} {x : Option (α × β)} {f : α → β → Option γ} {r : γ} (h : gw_b2 x f = some r) : ∃ a b, x = some (a, b) ∧ f a b = some r := by
  obtain ⟨⟨a, b⟩, h1, h2⟩ := Option.bind_eq_some_iff.mp h
  exact ⟨a, b, h1, h2⟩
theorem gw_nar {x : Int32} (h : gw_bl x = true) : narrow .boolean (.int x) = .int x := by rcases gw_bl_or h with rfl | rfl <;> rfl
theorem gw_F.blind {D : va_G} {g : gw_G} {tG : Nat} {A : Nat → Prop} {U : State} (h : gw_F D g tG A U) (f : JFrame) (mk : MethodId) (a : Array Value) : gw_F D g tG A (U.calling f mk a) := by
  obtain ⟨h1, h2, h3, h4, h5, h6, h7⟩ := h
  exact ⟨va_K.moved (u := U) (U := U.calling f mk a) (Vm.Alike.refl U.vm) h1, va_Z.moved (u := U) (U := U.calling f mk a) (Vm.Alike.refl U.vm) h2, va_T.moved (u := U) (U := U.calling f mk a) (Vm.Alike.refl U.vm) h3,
    va_tabs (u := U) rfl rfl h4, va_tabs (u := U) rfl rfl h5, va_tabs (u := U) rfl rfl h6, va_tabs (u := U) rfl rfl h7⟩
theorem gw_F.to {D : va_G} {g : gw_G} {tG : Nat} {A : Nat → Prop} {s U : State} {H : Heap} {locs : List Loc} (h : gw_F D g tG A s) (hS : va_S A s.heap H locs) (hU : U.heap = H) (hW : s.WarmedH U.vm) : gw_F D g tG A U := by
  obtain ⟨h1, h2, h3, h4, h5, h6, h7⟩ := h
  subst hU
  exact ⟨va_K.moved hW.alike h1, va_Z.moved hW.alike (h2.kept hS.2.1), va_T.moved hW.alike (h3.kept hS.2.1), va_Nw.warmM hW h4, va_Nw.warmM hW h5, va_Nw.warmM hW h6, va_Nw.warmM hW h7⟩
theorem gw_blind {D : va_G} {g : gw_G} {tG : Nat} {T : gw_T} {N : Nat} {ad : Nat → Nat} {A : Nat → Prop} {av : List Value} {s0 : gw_S} : FrameBlind (gw_Pc D g tG T N ad A av s0) := fun a U f mk q => ⟨q.1, q.2.1.blind f mk a, q.2.2⟩
section GWR
variable {p : Program} {l : Launch} {e : Env} {R : Room} {s : State} {m : MethodId} {args : Array Value} {below : List Frame} {meth : Method} {c : Code} {H : Heap} {locs : List Loc} {cells slots : Nat} {Q : State → Prop}
variable {cc : ByteArray} {nL : Nat} {Ts : List Cond} {own : String} {D : va_G} {g : gw_G} {tG N : Nat} {ad : Nat → Nat} {A : Nat → Prop} {T : gw_T} {H0 : Heap} {st : gw_S} {pc : Nat} {ls : Array Slot} {rest : List Value}
/-- a method, from its entry -/
theorem gw_met {y : MethodName} {ws ws' : List Cond} {rm : Room} {maxL : Nat} {ret : Option FieldType} {vs : List Value} {s0 : gw_S} {Qc : Array Value → State → Outcome → State → Prop} (hy : plainName y.cls = true) (hw : ws = .code y cc maxL ret :: ws') (hD : gw_D A N ad) (hvs : (lg_sl vs).length ≤ maxL)
    (kk : ∀ (p : Program) (e : Env) (s : State) (m : MethodId) (args : Array Value) (below : List Frame) (meth : Method) (c : Code), gw_E p s m args c cc maxL ws y.cls D g tG N ad A → meth.sig.returnType = ret → meth.locks = false → gw_I D T N ad A s.heap s0 s.heap [] → ∀ ls : Array Slot, lv_has ls maxL (lv_args 0 vs) → W p l e rm s m args below meth c s.heap [] 0 0 (MQ below Qc args s 0 0 A) (F0 m 0 ls [])) :
    Met l y ws rm (gw_Pc D g tG T N ad A vs s0) Qc 0 0 A := by
  refine Met.ofW (cc := cc) (maxL := maxL) (ret := ret) hy hw ?_
  intro p e s m args below meth c s₁ B hml hv
  obtain ⟨rfl, hfx, hP⟩ := hv
  rw [lg_entry_eq]
  exact kk p e s m _ below meth c ⟨⟨B.exec, B.bytes, hml, findClass_of_methodNamed B.named, atoms_spec (ws := ws) B.pre⟩, hfx, hD⟩ B.returns B.notSynchronized ⟨hP, va_S.rf⟩ _ (lv_entry vs hvs)
theorem gw_get (E : gw_E p s m args c cc nL Ts own D g tG N ad A) (I : gw_I D T N ad A H0 st H locs) (k j : Nat) (hk : k < N) {ci n : Nat} {fs : List Value} (hT : T k (st.1 k) (st.2.1 k) (st.2.2 k) = .inr (ci, fs)) {C : String} {TT : u_T} (hc : vwCl[ci]? = some (C, TT, n)) (hj : j < n) (hin : ∀ w ∈ u_ws C TT n, w ∈ Ts) {ref fn fd : String} {index : Nat} (hl : Cond.fieldLink own index ref fn fd ∈ Ts) (h1 : (TT j).1 = ref) (h2 : (TT j).2.1 = fn) (h3 : (TT j).2.2.1 = fd) {v : Value} (hv : fs[j]? = some v) (hdg : decode cc pc = .ok (.getfield index, 3))
    (kk : W p l e R s m args below meth c H locs cells slots Q (F0 m (pc + 3) ls (v :: rest))) : W p l e R s m args below meth c H locs cells slots Q (F0 m pc ls (.ref (ad k) :: rest)) := by
  subst h1; subst h2; subst h3
  exact va_get E.1.1 E.1.2.1 E.1.2.2.2.2 hin E.1.2.2.2.1 E.2.1.1 I.1 k (by rw [gw_at hk, hT]) hc j hj (E.1.2.2.2.2 _ hl) (fun _ h => h) hv hdg kk
theorem gw_put (E : gw_E p s m args c cc nL Ts own D g tG N ad A) (I : gw_I D T N ad A H0 st H locs) (k j : Nat) (hk : k < N) {ci n : Nat} {fs : List Value} (hT : T k (st.1 k) (st.2.1 k) (st.2.2 k) = .inr (ci, fs)) {C : String} {TT : u_T} (hc : vwCl[ci]? = some (C, TT, n)) (hj : j < n) (hin : ∀ w ∈ u_ws C TT n, w ∈ Ts) {ref fn fd : String} {index : Nat} (hl : Cond.fieldLink own index ref fn fd ∈ Ts) (h1 : (TT j).1 = ref) (h2 : (TT j).2.1 = fn) (h3 : (TT j).2.2.1 = fd)
    (ty0 : Nat → FieldType) (hty : ∀ k, k < n → parseFieldDescriptor (TT k).2.2.1 = some (ty0 k)) (hnm : ∀ a, a < n → ∀ b, b < n → a ≠ b → (TT a).2.1 ≠ (TT b).2.1) (hfin : (TT j).2.2.2 = false) {ty : FieldType} {v : Value} (hd : parseFieldDescriptor (TT j).2.2.1 = some ty) (hn : narrow ty v = v) (hfit : fits ty v = true) (hlen : j < fs.length)
    {st' : gw_S} (hT' : T k (st'.1 k) (st'.2.1 k) (st'.2.2 k) = .inr (ci, fs.set j v)) (hoff : ∀ a, a ≠ k → st'.1 a = st.1 a ∧ st'.2.1 a = st.2.1 a ∧ st'.2.2 a = st.2.2 a) (hdg : decode cc pc = .ok (.putfield index, 3))
    (kk : ∀ (H1 : Heap) (locs1 : List Loc), gw_I D T N ad A H0 st' H1 locs1 → W p l e R s m args below meth c H1 locs1 cells slots Q (F0 m (pc + 3) ls rest)) : W p l e R s m args below meth c H locs cells slots Q (F0 m pc ls (v :: .ref (ad k) :: rest)) := by
  subst h1; subst h2; subst h3
  refine va_put E.1.1 E.1.2.1 E.1.2.2.2.2 hin ty0 hty hnm E.1.2.2.2.1 E.2.1.1 I.1 E.2.2.va I.2 k (by rw [gw_at hk, hT]) hc j hj (E.1.2.2.2.2 _ hl) (fun _ h => h) hfin hd hn hfit hlen hdg (fun H1 locs1 hP _ hS => kk H1 locs1 ⟨?_, hS⟩)
  rw [← hT', gw_set hoff] at hP
  exact hP
theorem gw_iald (E : gw_E p s m args c cc nL Ts own D g tG N ad A) (I : gw_I D T N ad A H0 st H locs) (k : Nat) (hk : k < N) {n : Nat} (hT : T k (st.1 k) (st.2.1 k) (st.2.2 k) = .inl (g.1, n, .inl (st.1 k))) {i : Int32} (hi : gw_ix i n = true) (hdg : decode cc pc = .ok (.iaload, 1))
    (kk : W p l e R s m args below meth c H locs cells slots Q (F0 m (pc + 1) ls (.int (rdI st k i.toNatClampNeg) :: rest))) : W p l e R s m args below meth c H locs cells slots Q (F0 m pc ls (.int i :: .ref (ad k) :: rest)) :=
  va_iald E.1.1 E.1.2.1 E.2.1.1 I.1 k 0 (by rw [gw_at hk, hT]) rfl (gw_ix_in hi) hdg kk
theorem gw_zald (E : gw_E p s m args c cc nL Ts own D g tG N ad A) (I : gw_I D T N ad A H0 st H locs) (k : Nat) (hk : k < N) {n : Nat} (hT : T k (st.1 k) (st.2.1 k) (st.2.2 k) = .inl (g.2.1, n, .inl (st.1 k))) {i : Int32} (hi : gw_ix i n = true) (hdg : decode cc pc = .ok (.baload, 1))
    (kk : W p l e R s m args below meth c H locs cells slots Q (F0 m (pc + 1) ls (.int (rdI st k i.toNatClampNeg) :: rest))) : W p l e R s m args below meth c H locs cells slots Q (F0 m pc ls (.int i :: .ref (ad k) :: rest)) :=
  va_zald E.1.1 E.1.2.1 E.2.1.1 I.1 k 1 (by rw [gw_at hk, hT]) rfl (gw_ix_in hi) hdg kk
theorem gw_bald (E : gw_E p s m args c cc nL Ts own D g tG N ad A) (I : gw_I D T N ad A H0 st H locs) (k : Nat) (hk : k < N) {n : Nat} (hT : T k (st.1 k) (st.2.1 k) (st.2.2 k) = .inl (g.2.2.1, n, .inl (st.1 k))) {i : Int32} (hi : gw_ix i n = true) (hdg : decode cc pc = .ok (.baload, 1))
    (kk : W p l e R s m args below meth c H locs cells slots Q (F0 m (pc + 1) ls (.int (rdI st k i.toNatClampNeg) :: rest))) : W p l e R s m args below meth c H locs cells slots Q (F0 m pc ls (.int i :: .ref (ad k) :: rest)) :=
  va_bald E.1.1 E.1.2.1 E.2.1.1 I.1 k 2 (by rw [gw_at hk, hT]) rfl (gw_ix_in hi) hdg kk
theorem gw_aald (E : gw_E p s m args c cc nL Ts own D g tG N ad A) (I : gw_I D T N ad A H0 st H locs) (k : Nat) (hk : k < N) {n : Nat} (hT : T k (st.1 k) (st.2.1 k) (st.2.2 k) = .inl (g.2.2.2, n, .inr (.inr (.inr (.inr (fun i => some (ad (st.2.1 k i)))))))) {i : Int32} (hi : gw_ix i n = true) (hdg : decode cc pc = .ok (.aaload, 1))
    (kk : W p l e R s m args below meth c H locs cells slots Q (F0 m (pc + 1) ls (.ref (ad (rdR st k i.toNatClampNeg)) :: rest))) : W p l e R s m args below meth c H locs cells slots Q (F0 m pc ls (.int i :: .ref (ad k) :: rest)) :=
  va_aldq E.1.1 E.1.2.1 E.2.1.1 I.1 k 3 (by rw [gw_at hk, hT]) rfl (gw_ix_in hi) hdg kk
theorem gw_iast (E : gw_E p s m args c cc nL Ts own D g tG N ad A) (I : gw_I D T N ad A H0 st H locs) (k : Nat) (hk : k < N) {n : Nat} (hT : ∀ x : Nat → Int32, T k x (st.2.1 k) (st.2.2 k) = .inl (g.1, n, .inl x)) {i x : Int32} (hi : gw_ix i n = true) {st' : gw_S} (he : st' = wrI st k i.toNatClampNeg x) (hdg : decode cc pc = .ok (.iastore, 1))
    (kk : ∀ (H1 : Heap) (locs1 : List Loc), gw_I D T N ad A H0 st' H1 locs1 → W p l e R s m args below meth c H1 locs1 cells slots Q (F0 m (pc + 1) ls rest)) : W p l e R s m args below meth c H locs cells slots Q (F0 m pc ls (.int x :: .int i :: .ref (ad k) :: rest)) := by
  subst he
  refine va_iast E.1.1 E.1.2.1 E.2.1.1 I.1 E.2.2.va I.2 k 0 (by rw [gw_at hk, hT]) rfl (gw_ix_in hi) hdg (fun H1 locs1 hP _ hS => kk H1 locs1 ⟨?_, hS⟩)
  have h := gw_set (T := T) (N := N) (ad := ad) (wrI_off st k i.toNatClampNeg x)
  rw [wrI_self] at h
  rw [← hT] at hP
  rw [← h]
  exact hP
theorem gw_zast (E : gw_E p s m args c cc nL Ts own D g tG N ad A) (I : gw_I D T N ad A H0 st H locs) (k : Nat) (hk : k < N) {n : Nat} (hT : ∀ x : Nat → Int32, T k x (st.2.1 k) (st.2.2 k) = .inl (g.2.1, n, .inl x)) {i x : Int32} (hi : gw_ix i n = true) (hbl : gw_bl x = true) {st' : gw_S} (he : st' = wrI st k i.toNatClampNeg x) (hdg : decode cc pc = .ok (.bastore, 1))
    (kk : ∀ (H1 : Heap) (locs1 : List Loc), gw_I D T N ad A H0 st' H1 locs1 → W p l e R s m args below meth c H1 locs1 cells slots Q (F0 m (pc + 1) ls rest)) : W p l e R s m args below meth c H locs cells slots Q (F0 m pc ls (.int x :: .int i :: .ref (ad k) :: rest)) := by
  subst he
  refine va_zast E.1.1 E.1.2.1 E.2.1.1 I.1 E.2.2.va I.2 k 1 (by rw [gw_at hk, hT]) rfl (gw_ix_in hi) hdg (fun H1 locs1 hP _ hS => kk H1 locs1 ⟨?_, hS⟩)
  have h := gw_set (T := T) (N := N) (ad := ad) (wrI_off st k i.toNatClampNeg x)
  rw [wrI_self] at h
  have hx : vp_nar .boolean x = x := by rcases gw_bl_or hbl with rfl | rfl <;> rfl
  rw [← hT, hx] at hP
  rw [← h]
  exact hP
theorem gw_bast (E : gw_E p s m args c cc nL Ts own D g tG N ad A) (I : gw_I D T N ad A H0 st H locs) (k : Nat) (hk : k < N) {n : Nat} (hT : ∀ x : Nat → Int32, T k x (st.2.1 k) (st.2.2 k) = .inl (g.2.2.1, n, .inl x)) {i x : Int32} (hi : gw_ix i n = true) {st' : gw_S} (he : st' = wrI st k i.toNatClampNeg (vp_nar .byte x)) (hdg : decode cc pc = .ok (.bastore, 1))
    (kk : ∀ (H1 : Heap) (locs1 : List Loc), gw_I D T N ad A H0 st' H1 locs1 → W p l e R s m args below meth c H1 locs1 cells slots Q (F0 m (pc + 1) ls rest)) : W p l e R s m args below meth c H locs cells slots Q (F0 m pc ls (.int x :: .int i :: .ref (ad k) :: rest)) := by
  subst he
  refine va_bast E.1.1 E.1.2.1 E.2.1.1 I.1 E.2.2.va I.2 k 2 (by rw [gw_at hk, hT]) rfl (gw_ix_in hi) hdg (fun H1 locs1 hP _ hS => kk H1 locs1 ⟨?_, hS⟩)
  have h := gw_set (T := T) (N := N) (ad := ad) (wrI_off st k i.toNatClampNeg (vp_nar .byte x))
  rw [wrI_self] at h
  rw [← hT] at hP
  rw [← h]
  exact hP
theorem gw_aast (E : gw_E p s m args c cc nL Ts own D g tG N ad A) (I : gw_I D T N ad A H0 st H locs) (k q : Nat) (hk : k < N) (hq : q < N) {n : Nat} (hT : ∀ y : Nat → Nat, T k (st.1 k) y (st.2.2 k) = .inl (g.2.2.2, n, .inr (.inr (.inr (.inr (fun i => some (ad (y i)))))))) {fs : List Value} (hTq : T q (st.1 q) (st.2.1 q) (st.2.2 q) = .inr (3, fs)) {i : Int32} (hi : gw_ix i n = true) {st' : gw_S} (he : st' = wrR st k i.toNatClampNeg q) (hdg : decode cc pc = .ok (.aastore, 1))
    (kk : ∀ (H1 : Heap) (locs1 : List Loc), gw_I D T N ad A H0 st' H1 locs1 → W p l e R s m args below meth c H1 locs1 cells slots Q (F0 m (pc + 1) ls rest)) : W p l e R s m args below meth c H locs cells slots Q (F0 m pc ls (.ref (ad q) :: .int i :: .ref (ad k) :: rest)) := by
  subst he
  refine va_astq E.1.1 E.1.2.1 E.2.1.1 I.1 E.2.2.va I.2 k 3 q 3 (r := (RX3, TX3, 4)) (by rw [gw_at hk, hT]) rfl (by rw [gw_at hq, hTq]) rfl (gw_ix_in hi) hdg (fun H1 locs1 hP _ hS => kk H1 locs1 ⟨?_, hS⟩)
  have h := gw_set (T := T) (N := N) (ad := ad) (wrR_off st k i.toNatClampNeg q)
  rw [wrR_self] at h
  have hf : va_up (fun i => some (ad (st.2.1 k i))) i.toNatClampNeg (some (ad q)) = fun j => some (ad (gw_upR (st.2.1 k) i.toNatClampNeg q j)) := by
    funext j
    by_cases hj : j = i.toNatClampNeg
    · subst hj; simp [va_up, gw_upR]
    · simp [va_up, gw_upR, hj]
  rw [hf, ← hT] at hP
  rw [← h]
  exact hP
theorem gw_alen (E : gw_E p s m args c cc nL Ts own D g tG N ad A) (I : gw_I D T N ad A H0 st H locs) (k : Nat) (hk : k < N) {n : Nat} (hT : T k (st.1 k) (st.2.1 k) (st.2.2 k) = .inl (g.1, n, .inl (st.1 k))) {v : Int32} (hv : Int32.ofNat n = v) (hdg : decode cc pc = .ok (.arraylength, 1))
    (kk : W p l e R s m args below meth c H locs cells slots Q (F0 m (pc + 1) ls (.int v :: rest))) : W p l e R s m args below meth c H locs cells slots Q (F0 m pc ls (.ref (ad k) :: rest)) :=
  va_alen E.1.1 E.1.2.1 E.2.1.1 I.1 k 0 (by rw [gw_at hk, hT]) rfl hv hdg kk
/-- GRIPS -/
theorem gw_grip (E : gw_E p s m args c cc nL Ts own D g tG N ad A) (hS : va_S A s.heap H locs) {index : Nat} (hl : Cond.fieldLink own index "ThrownSacks" "GRIPS" "[I" ∈ Ts) (hdg : decode cc pc = .ok (.getstatic index, 3))
    (kk : W p l e R s m args below meth c H locs cells slots Q (F0 m (pc + 3) ls (.ref tG :: rest))) : W p l e R s m args below meth c H locs cells slots Q (F0 m pc ls rest) :=
  va_gets E.1.1 E.1.2.1 E.2.1.2.1 hS E.1.2.2.2.1 (E.1.2.2.2.2 _ hl) (fun _ h => h) hdg kk
theorem gw_gripAt (E : gw_E p s m args c cc nL Ts own D g tG N ad A) (hS : va_S A s.heap H locs) {i : Int32} (hi : gw_ix i 5 = true) (hdg : decode cc pc = .ok (.iaload, 1))
    (kk : W p l e R s m args below meth c H locs cells slots Q (F0 m (pc + 1) ls (.int (gw_gi i.toNatClampNeg) :: rest))) : W p l e R s m args below meth c H locs cells slots Q (F0 m pc ls (.int i :: .ref tG :: rest)) :=
  va_ti E.1.1 E.1.2.1 E.2.1.2.2.1 hS (gw_ix_in hi) rfl hdg kk
theorem gw_gripLen (E : gw_E p s m args c cc nL Ts own D g tG N ad A) (hS : va_S A s.heap H locs) (hdg : decode cc pc = .ok (.arraylength, 1))
    (kk : W p l e R s m args below meth c H locs cells slots Q (F0 m (pc + 1) ls (.int 5 :: rest))) : W p l e R s m args below meth c H locs cells slots Q (F0 m pc ls (.ref tG :: rest)) :=
  va_tlen E.1.1 E.1.2.1 E.2.1.2.2.1 hS rfl hdg kk
/-- calls within a world -/
theorem gw_runV (E : gw_E p s m args c cc nL Ts own D g tG N ad A) (I : gw_I D T N ad A s.heap st H locs) {y : MethodName} {ws : List Cond} {rm : Room} {Qc : Array Value → State → Outcome → State → Prop} {C : String} {index maxL n : Nat} {bytes : ByteArray} {ret : Option FieldType} {As st0 : List Value} {b : Nat}
    (hM : Met l y ws rm (gw_Pc D g tG T N ad A (.ref (ad b) :: As) st) Qc 0 0 A) (cw : CallW R s args own C index y bytes maxL ret ws rm 0 0 n) (hb : b < N) {ci nf : Nat} {fs : List Value} {TT : u_T} (hTb : T b (st.1 b) (st.2.1 b) (st.2.2 b) = .inr (ci, fs)) (hcb : vwCl[ci]? = some (C, TT, nf)) (hn : As.length = n) (hl : ls.size = nL)
    (hst : st0 = As.reverse ++ .ref (ad b) :: rest) (hW : (rest.map fun v => v.category).sum ≤ 8) (hdg : decode cc pc = .ok (.invokevirtual index, 3)) :
    va_Run p l e R s m args below meth c H locs 0 0 0 0 (F0 m pc ls st0) rest (Qc (Value.ref (ad b) :: As).toArray) A := by
  refine va_runV E.1 hM cw ⟨gw_blind, ?_, fun U hU hW => ⟨rfl, E.2.1.to I.2 hU hW, by rw [hU]; exact I.1⟩⟩ rfl hn hl hst (lv_room hW) hdg ⟨Nat.zero_le _, Nat.zero_le _⟩
  exact va_recv (q := (C, TT, nf)) (ws := gw_w T N ad st) E.2.1.1 I.1 (ci := ci) (q0 := b) hcb (by rw [gw_at hb, hTb])
theorem gw_runS (E : gw_E p s m args c cc nL Ts own D g tG N ad A) (I : gw_I D T N ad A s.heap st H locs) {y : MethodName} {ws : List Cond} {rm : Room} {Qc : Array Value → State → Outcome → State → Prop} {index maxL n : Nat} {bytes : ByteArray} {ret : Option FieldType} {As st0 : List Value}
    (hM : Met l y ws rm (gw_Pc D g tG T N ad A As st) Qc 0 0 A) (cw : CallB R s args own index y bytes maxL ret ws rm 0 0 n ∧ (Cond.static y).before args s = true) (hn : As.length = n) (hl : ls.size = nL)
    (hst : st0 = As.reverse ++ rest) (hW : (rest.map fun v => v.category).sum ≤ 8) (hdg : decode cc pc = .ok (.invokestatic index, 3)) :
    va_Run p l e R s m args below meth c H locs 0 0 0 0 (F0 m pc ls st0) rest (Qc As.toArray) A :=
  va_runS E.1 hM cw ⟨gw_blind, fun U hU hW => ⟨rfl, E.2.1.to I.2 hU hW, by rw [hU]; exact I.1⟩⟩ rfl hn hl hst (lv_room hW) hdg ⟨Nat.zero_le _, Nat.zero_le _⟩
theorem gw_runN (E : gw_E p s m args c cc nL Ts own D g tG N ad A) (I : gw_I D T N ad A s.heap st H locs) {y : MethodName} {ws : List Cond} {rm : Room} {Qc : Array Value → State → Outcome → State → Prop} {index maxL n : Nat} {host : String} {bytes : ByteArray} {ret : Option FieldType} {As st0 : List Value}
    (hM : Met l y ws rm (gw_Pc D g tG T N ad A As st) Qc 0 0 A) (cw : va_CN R s args own index y host bytes maxL ret ws rm 0 0 n ∧ (Cond.static y).before args s = true ∧ True) (hn : As.length = n) (hl : ls.size = nL)
    (hst : st0 = As.reverse ++ rest) (hW : (rest.map fun v => v.category).sum ≤ 8) (hdg : decode cc pc = .ok (.invokestatic index, 3)) :
    va_Run p l e R s m args below meth c H locs 0 0 0 0 (F0 m pc ls st0) rest (Qc As.toArray) A :=
  va_runSN E.1 hM cw ⟨gw_blind, fun U hU hW => ⟨rfl, E.2.1.to I.2 hU hW, by rw [hU]; exact I.1⟩⟩ rfl hn hl hst (lv_room hW) hdg ⟨Nat.zero_le _, Nat.zero_le _⟩
variable {st0 : List Value} {st' : gw_S} {a : Array Value}
theorem gw_calli {r0 : Int32} (I : gw_I D T N ad A H0 st H locs) (hr : va_Run p l e R s m args below meth c H locs 0 0 0 0 (F0 m pc ls st0) rest (gw_Qi D T N ad A r0 st' a) A)
    (kk : ∀ (H1 : Heap) (locs1 : List Loc), gw_I D T N ad A H0 st' H1 locs1 → W p l e R s m args below meth c H1 locs1 0 0 Q (F0 m (pc + 3) ls (.int r0 :: rest))) : W p l e R s m args below meth c H locs 0 0 Q (F0 m pc ls st0) := by
  refine va_calli (post := fun (r : Int32) (u : gw_S) => r = r0 ∧ u = st') (B := gw_B D T N ad) hr I.2 (fun _ _ h => h) (fun _ h => h) (fun r u t H1 locs1 ht hvm hp hB hz hk hS => ?_)
  obtain ⟨rfl, rfl⟩ := hp
  exact kk H1 locs1 ⟨by rw [← ht]; exact hB, hS⟩
theorem gw_calll {r0 : Int64} (I : gw_I D T N ad A H0 st H locs) (hr : va_Run p l e R s m args below meth c H locs 0 0 0 0 (F0 m pc ls st0) rest (gw_Ql D T N ad A r0 st' a) A)
    (kk : ∀ (H1 : Heap) (locs1 : List Loc), gw_I D T N ad A H0 st' H1 locs1 → W p l e R s m args below meth c H1 locs1 0 0 Q (F0 m (pc + 3) ls (.long r0 :: rest))) : W p l e R s m args below meth c H locs 0 0 Q (F0 m pc ls st0) := by
  refine va_calll (post := fun (r : Int64) (u : gw_S) => r = r0 ∧ u = st') (B := gw_B D T N ad) hr I.2 (fun _ _ h => h) (fun _ h => h) (fun r u t H1 locs1 ht hvm hp hB hz hk hS => ?_)
  obtain ⟨rfl, rfl⟩ := hp
  exact kk H1 locs1 ⟨by rw [← ht]; exact hB, hS⟩
theorem gw_callv (I : gw_I D T N ad A H0 st H locs) (hr : va_Run p l e R s m args below meth c H locs 0 0 0 0 (F0 m pc ls st0) rest (gw_Qv D T N ad A st' a) A)
    (kk : ∀ (H1 : Heap) (locs1 : List Loc), gw_I D T N ad A H0 st' H1 locs1 → W p l e R s m args below meth c H1 locs1 0 0 Q (F0 m (pc + 3) ls rest)) : W p l e R s m args below meth c H locs 0 0 Q (F0 m pc ls st0) := by
  refine va_callv (post := fun (u : gw_S) => u = st') (B := gw_B D T N ad) hr I.2 (fun _ _ h => h) (fun _ h => h) (fun u t H1 locs1 ht hvm hp hB hz hk hS => ?_)
  subst hp
  exact kk H1 locs1 ⟨by rw [← ht]; exact hB, hS⟩
/-- ends -/
theorem gw_iret {v r0 : Int32} (E : gw_E p s m args c cc nL Ts own D g tG N ad A) (I : gw_I D T N ad A s.heap st H locs) {ty : FieldType} (hr : meth.sig.returnType = some ty) (hlocks : meth.locks = false) (hn : narrow ty (.int v) = .int v) (hv : v = r0) (hs : st = st') (hdg : decode cc pc = .ok (.ireturn, 1)) :
    W p l e R s m args below meth c H locs 0 0 (MQ below (gw_Qi D T N ad A r0 st') args s 0 0 A) (F0 m pc ls [.int v]) := by
  subst hv; subst hs
  exact W.zret E.1.1 E.1.2.1 hr hn (fun t ht hW => ⟨⟨v, st, rfl, ⟨rfl, rfl⟩, by show va_P _ _ _ t.heap; rw [ht]; exact I.1⟩, I.2.F ht⟩) I.2.2.2 hdg hlocks
theorem gw_lret {v r0 : Int64} (E : gw_E p s m args c cc nL Ts own D g tG N ad A) (I : gw_I D T N ad A s.heap st H locs) (hr : meth.sig.returnType = some .long) (hlocks : meth.locks = false) (hv : v = r0) (hs : st = st') (hdg : decode cc pc = .ok (.lreturn, 1)) :
    W p l e R s m args below meth c H locs 0 0 (MQ below (gw_Ql D T N ad A r0 st') args s 0 0 A) (F0 m pc ls [.long v]) := by
  subst hv; subst hs
  exact W.lret E.1.1 E.1.2.1 hr (fun t ht hW => ⟨⟨v, st, rfl, ⟨rfl, rfl⟩, by show va_P _ _ _ t.heap; rw [ht]; exact I.1⟩, I.2.F ht⟩) I.2.2.2 hdg hlocks
theorem gw_vret (E : gw_E p s m args c cc nL Ts own D g tG N ad A) (I : gw_I D T N ad A s.heap st H locs) (hr : meth.sig.returnType = none) (hlocks : meth.locks = false) (hs : st = st') (hdg : decode cc pc = .ok (.return_, 1)) :
    W p l e R s m args below meth c H locs 0 0 (MQ below (gw_Qv D T N ad A st') args s 0 0 A) (F0 m pc ls []) := by
  subst hs
  exact W.vret E.1.1 E.1.2.1 hr (fun t ht hW => ⟨⟨st, rfl, rfl, by show va_P _ _ _ t.heap; rw [ht]; exact I.1⟩, I.2.F ht⟩) I.2.2.2 hdg hlocks
theorem gw_topi {x y : Int32} (h : x = y) (k : W p l e R s m args below meth c H locs cells slots Q (F0 m pc ls (.int x :: rest))) : W p l e R s m args below meth c H locs cells slots Q (F0 m pc ls (.int y :: rest)) := by subst h; exact k
theorem gw_topl {x y : Int64} (h : x = y) (k : W p l e R s m args below meth c H locs cells slots Q (F0 m pc ls (.long x :: rest))) : W p l e R s m args below meth c H locs cells slots Q (F0 m pc ls (.long y :: rest)) := by subst h; exact k
theorem gw_topr {x y : Nat} (h : x = y) (k : W p l e R s m args below meth c H locs cells slots Q (F0 m pc ls (.ref (ad x) :: rest))) : W p l e R s m args below meth c H locs cells slots Q (F0 m pc ls (.ref (ad y) :: rest)) := by subst h; exact k
end GWR
theorem gw_sw {x : Int32} {k : Int32} {a : Int} (h : x = k) (hk : k.toInt = a) : x.toInt = a := by rw [h, hk]
end
section
/-! The two worlds: the class (83 cells: the object, its page, plan, two standings, best, ways, trial; 14 rows of four cells each from 27 on) and the reference (23 cells). Written by wip/whole/gen03.py. -/
def gw_row (q : Nat) : Bool := decide (27 ≤ q) && (decide (q < 83) && decide ((q - 27) % 4 = 0))
def tC_row4 (g : gw_G) (ad : Nat → Nat) (k : Nat) (x : Nat → Int32) : va_E := if (k - 27) % 4 = 0 then .inr (3, [.ref (ad (k + 1)), .ref (ad (k + 2)), .ref (ad (k + 3)), .int (x 3)]) else if (k - 27) % 4 = 3 then .inl (g.2.1, 9, .inl x) else .inl (g.1, 9, .inl x)
def tC_fix (g : gw_G) (ad : Nat → Nat) (k : Nat) (x : Nat → Int32) (y : Nat → Nat) : va_E := match k with
  | 0 => .inr (7, [.ref (ad 1), .ref (ad 3), .ref (ad 7), .ref (ad 12), .ref (ad 17), .ref (ad 21), .ref (ad 25), .int (x 7), .int (x 8)])
  | 1 => .inr (1, [.ref (ad 2), .int (x 1)])
  | 2 => .inl (g.1, 24, .inl x)
  | 3 => .inr (2, [.ref (ad 4), .ref (ad 5), .ref (ad 6), .int (x 3)])
  | 4 => .inl (g.1, 6, .inl x)
  | 5 => .inl (g.1, 6, .inl x)
  | 6 => .inl (g.1, 6, .inl x)
  | 7 => .inr (4, [.ref (ad 8), .ref (ad 9), .ref (ad 27), .ref (ad 10), .ref (ad 11), .int (x 5), .int (x 6), .int (x 7)])
  | 8 => .inl (g.1, 6, .inl x)
  | 9 => .inl (g.2.2.2, 6, .inr (.inr (.inr (.inr (fun i => some (ad (y i)))))))
  | 10 => .inl (g.1, 8, .inl x)
  | 11 => .inl (g.1, 8, .inl x)
  | 12 => .inr (4, [.ref (ad 13), .ref (ad 14), .ref (ad 55), .ref (ad 15), .ref (ad 16), .int (x 5), .int (x 6), .int (x 7)])
  | 13 => .inl (g.1, 6, .inl x)
  | 14 => .inl (g.2.2.2, 6, .inr (.inr (.inr (.inr (fun i => some (ad (y i)))))))
  | 15 => .inl (g.1, 8, .inl x)
  | 16 => .inl (g.1, 8, .inl x)
  | 17 => .inr (0, [.ref (ad 18), .ref (ad 19), .ref (ad 20), .int (x 3)])
  | 18 => .inl (g.1, 6, .inl x)
  | 19 => .inl (g.1, 6, .inl x)
  | 20 => .inl (g.1, 64, .inl x)
  | 21 => .inr (6, [.ref (ad 22), .ref (ad 23), .ref (ad 24), .int (x 3), .int (x 4)])
  | 22 => .inl (g.1, 6, .inl x)
  | 23 => .inl (g.1, 6, .inl x)
  | 24 => .inl (g.1, 6, .inl x)
  | 25 => .inr (5, [.ref (ad 26), .int (x 1), .int (x 2), .int (x 3)])
  | _ => .inl (g.1, 6, .inl x)
def tC (g : gw_G) (ad : Nat → Nat) : gw_T := fun k x y _ => if 27 ≤ k then tC_row4 g ad k x else tC_fix g ad k x y
def tM (g : gw_G) (ad : Nat → Nat) : gw_T := fun k x _ z => match k with
  | 0 => .inr (8, [.int (x 0), .int (x 1), .ref (ad 1), .ref (ad 2), .ref (ad 3), .ref (ad 4), .ref (ad 5), .ref (ad 6), .ref (ad 7), .ref (ad 8), .int (x 10), .ref (ad 9), .ref (ad 10), .int (x 13), .int (x 14), .int (x 15), .ref (ad 11), .ref (ad 12), .int (x 18), .ref (ad 13), .int (x 20), .int (x 21), .int (x 22), .long (z 23), .int (x 24), .int (x 25), .int (x 26), .int (x 27), .int (x 28), .int (x 29), .int (x 30), .int (x 31), .ref (ad 14), .ref (ad 15), .ref (ad 16), .ref (ad 17), .ref (ad 18), .ref (ad 19), .ref (ad 20), .ref (ad 21), .ref (ad 22), .long (z 41)])
  | 1 => .inl (g.1, 6, .inl x)
  | 2 => .inl (g.1, 6, .inl x)
  | 3 => .inl (g.1, 6, .inl x)
  | 4 => .inl (g.1, 12, .inl x)
  | 5 => .inl (g.1, 12, .inl x)
  | 6 => .inl (g.1, 6, .inl x)
  | 7 => .inl (g.1, 6, .inl x)
  | 8 => .inl (g.1, 6, .inl x)
  | 9 => .inl (g.1, 8, .inl x)
  | 10 => .inl (g.1, 8, .inl x)
  | 11 => .inl (g.1, 8, .inl x)
  | 12 => .inl (g.1, 8, .inl x)
  | 13 => .inl (g.2.2.1, 24, .inl x)
  | 14 => .inl (g.1, 6, .inl x)
  | 15 => .inl (g.1, 6, .inl x)
  | 16 => .inl (g.1, 6, .inl x)
  | 17 => .inl (g.1, 6, .inl x)
  | 18 => .inl (g.1, 6, .inl x)
  | 19 => .inl (g.1, 8, .inl x)
  | 20 => .inl (g.1, 8, .inl x)
  | 21 => .inl (g.1, 8, .inl x)
  | _ => .inl (g.1, 8, .inl x)
theorem gw_row_of {q : Nat} (h : gw_row q = true) : 27 ≤ q ∧ q < 83 ∧ (q - 27) % 4 = 0 := by
  simp [gw_row] at h; exact h
theorem tC_lt0 {q : Nat} (h : gw_row q = true) : q < 83 := (gw_row_of h).2.1
theorem tC_lt1 {q : Nat} (h : gw_row q = true) : q + 1 < 83 := by have := gw_row_of h; omega
theorem tC_lt2 {q : Nat} (h : gw_row q = true) : q + 2 < 83 := by have := gw_row_of h; omega
theorem tC_lt3 {q : Nat} (h : gw_row q = true) : q + 3 < 83 := by have := gw_row_of h; omega
theorem tC_row {q : Nat} (h : gw_row q = true) {g : gw_G} {ad : Nat → Nat} {x : Nat → Int32} {y : Nat → Nat} {z : Nat → Int64} : tC g ad q x y z = .inr (3, [.ref (ad (q + 1)), .ref (ad (q + 2)), .ref (ad (q + 3)), .int (x 3)]) := by
  have := gw_row_of h
  unfold tC tC_row4
  rw [if_pos (by omega), if_pos (by omega)]
theorem tC_ra1 {q : Nat} (h : gw_row q = true) {g : gw_G} {ad : Nat → Nat} {x : Nat → Int32} {y : Nat → Nat} {z : Nat → Int64} : tC g ad (q + 1) x y z = .inl (g.1, 9, .inl x) := by
  have := gw_row_of h
  unfold tC tC_row4
  rw [if_pos (by omega), if_neg (by omega), if_neg (by omega)]
theorem tC_ra2 {q : Nat} (h : gw_row q = true) {g : gw_G} {ad : Nat → Nat} {x : Nat → Int32} {y : Nat → Nat} {z : Nat → Int64} : tC g ad (q + 2) x y z = .inl (g.1, 9, .inl x) := by
  have := gw_row_of h
  unfold tC tC_row4
  rw [if_pos (by omega), if_neg (by omega), if_neg (by omega)]
theorem tC_ra3 {q : Nat} (h : gw_row q = true) {g : gw_G} {ad : Nat → Nat} {x : Nat → Int32} {y : Nat → Nat} {z : Nat → Int64} : tC g ad (q + 3) x y z = .inl (g.2.1, 9, .inl x) := by
  have := gw_row_of h
  unfold tC tC_row4
  rw [if_pos (by omega), if_neg (by omega), if_pos (by omega)]
section GWF
variable {p : Program} {l : Launch} {e : Env} {R : Room} {s : State} {m : MethodId} {args : Array Value} {below : List Frame} {meth : Method} {c : Code} {H : Heap} {locs : List Loc} {cells slots : Nat} {Q : State → Prop}
variable {cc : ByteArray} {nL : Nat} {Ts : List Cond} {own : String} {D : va_G} {g : gw_G} {tG : Nat} {ad : Nat → Nat} {A : Nat → Prop} {H0 : Heap} {st : gw_S} {pc : Nat} {ls : Array Slot} {rest : List Value}
theorem gw_fit {x : Int32} (h : gw_bl x = true) : fits .boolean (.int x) = true := by rcases gw_bl_or h with rfl | rfl <;> rfl
theorem gf_C_0_0 (E : gw_E p s m args c cc nL Ts own D g tG 83 ad A) (I : gw_I D (tC g ad) 83 ad A H0 st H locs) (hin : ∀ w ∈ u_ws RX7 TX7 9, w ∈ Ts) {index : Nat} (hl : Cond.fieldLink own index "ThrownSacks" "page" "LThrownSacks$Page;" ∈ Ts) (hdg : decode cc pc = .ok (.getfield index, 3)) (kk : W p l e R s m args below meth c H locs cells slots Q (F0 m (pc + 3) ls (.ref (ad 1) :: rest))) : W p l e R s m args below meth c H locs cells slots Q (F0 m pc ls (.ref (ad 0) :: rest)) :=
  gw_get E I 0 0 (by decide) rfl rfl (by decide) hin hl rfl rfl rfl rfl hdg kk
theorem gf_C_0_1 (E : gw_E p s m args c cc nL Ts own D g tG 83 ad A) (I : gw_I D (tC g ad) 83 ad A H0 st H locs) (hin : ∀ w ∈ u_ws RX7 TX7 9, w ∈ Ts) {index : Nat} (hl : Cond.fieldLink own index "ThrownSacks" "plan" "LThrownSacks$Plan;" ∈ Ts) (hdg : decode cc pc = .ok (.getfield index, 3)) (kk : W p l e R s m args below meth c H locs cells slots Q (F0 m (pc + 3) ls (.ref (ad 3) :: rest))) : W p l e R s m args below meth c H locs cells slots Q (F0 m pc ls (.ref (ad 0) :: rest)) :=
  gw_get E I 0 1 (by decide) rfl rfl (by decide) hin hl rfl rfl rfl rfl hdg kk
theorem gf_C_0_2 (E : gw_E p s m args c cc nL Ts own D g tG 83 ad A) (I : gw_I D (tC g ad) 83 ad A H0 st H locs) (hin : ∀ w ∈ u_ws RX7 TX7 9, w ∈ Ts) {index : Nat} (hl : Cond.fieldLink own index "ThrownSacks" "now" "LThrownSacks$Standing;" ∈ Ts) (hdg : decode cc pc = .ok (.getfield index, 3)) (kk : W p l e R s m args below meth c H locs cells slots Q (F0 m (pc + 3) ls (.ref (ad 7) :: rest))) : W p l e R s m args below meth c H locs cells slots Q (F0 m pc ls (.ref (ad 0) :: rest)) :=
  gw_get E I 0 2 (by decide) rfl rfl (by decide) hin hl rfl rfl rfl rfl hdg kk
theorem gf_C_0_3 (E : gw_E p s m args c cc nL Ts own D g tG 83 ad A) (I : gw_I D (tC g ad) 83 ad A H0 st H locs) (hin : ∀ w ∈ u_ws RX7 TX7 9, w ∈ Ts) {index : Nat} (hl : Cond.fieldLink own index "ThrownSacks" "kept" "LThrownSacks$Standing;" ∈ Ts) (hdg : decode cc pc = .ok (.getfield index, 3)) (kk : W p l e R s m args below meth c H locs cells slots Q (F0 m (pc + 3) ls (.ref (ad 12) :: rest))) : W p l e R s m args below meth c H locs cells slots Q (F0 m pc ls (.ref (ad 0) :: rest)) :=
  gw_get E I 0 3 (by decide) rfl rfl (by decide) hin hl rfl rfl rfl rfl hdg kk
theorem gf_C_0_4 (E : gw_E p s m args c cc nL Ts own D g tG 83 ad A) (I : gw_I D (tC g ad) 83 ad A H0 st H locs) (hin : ∀ w ∈ u_ws RX7 TX7 9, w ∈ Ts) {index : Nat} (hl : Cond.fieldLink own index "ThrownSacks" "best" "LThrownSacks$Best;" ∈ Ts) (hdg : decode cc pc = .ok (.getfield index, 3)) (kk : W p l e R s m args below meth c H locs cells slots Q (F0 m (pc + 3) ls (.ref (ad 17) :: rest))) : W p l e R s m args below meth c H locs cells slots Q (F0 m pc ls (.ref (ad 0) :: rest)) :=
  gw_get E I 0 4 (by decide) rfl rfl (by decide) hin hl rfl rfl rfl rfl hdg kk
theorem gf_C_0_5 (E : gw_E p s m args c cc nL Ts own D g tG 83 ad A) (I : gw_I D (tC g ad) 83 ad A H0 st H locs) (hin : ∀ w ∈ u_ws RX7 TX7 9, w ∈ Ts) {index : Nat} (hl : Cond.fieldLink own index "ThrownSacks" "ways" "LThrownSacks$Ways;" ∈ Ts) (hdg : decode cc pc = .ok (.getfield index, 3)) (kk : W p l e R s m args below meth c H locs cells slots Q (F0 m (pc + 3) ls (.ref (ad 21) :: rest))) : W p l e R s m args below meth c H locs cells slots Q (F0 m pc ls (.ref (ad 0) :: rest)) :=
  gw_get E I 0 5 (by decide) rfl rfl (by decide) hin hl rfl rfl rfl rfl hdg kk
theorem gf_C_0_6 (E : gw_E p s m args c cc nL Ts own D g tG 83 ad A) (I : gw_I D (tC g ad) 83 ad A H0 st H locs) (hin : ∀ w ∈ u_ws RX7 TX7 9, w ∈ Ts) {index : Nat} (hl : Cond.fieldLink own index "ThrownSacks" "trial" "LThrownSacks$Trial;" ∈ Ts) (hdg : decode cc pc = .ok (.getfield index, 3)) (kk : W p l e R s m args below meth c H locs cells slots Q (F0 m (pc + 3) ls (.ref (ad 25) :: rest))) : W p l e R s m args below meth c H locs cells slots Q (F0 m pc ls (.ref (ad 0) :: rest)) :=
  gw_get E I 0 6 (by decide) rfl rfl (by decide) hin hl rfl rfl rfl rfl hdg kk
theorem gf_C_0_7 (E : gw_E p s m args c cc nL Ts own D g tG 83 ad A) (I : gw_I D (tC g ad) 83 ad A H0 st H locs) (hin : ∀ w ∈ u_ws RX7 TX7 9, w ∈ Ts) {index : Nat} (hl : Cond.fieldLink own index "ThrownSacks" "imageKept" "Z" ∈ Ts) (hdg : decode cc pc = .ok (.getfield index, 3)) (kk : W p l e R s m args below meth c H locs cells slots Q (F0 m (pc + 3) ls (.int (rdI st 0 7) :: rest))) : W p l e R s m args below meth c H locs cells slots Q (F0 m pc ls (.ref (ad 0) :: rest)) :=
  gw_get E I 0 7 (by decide) rfl rfl (by decide) hin hl rfl rfl rfl rfl hdg kk
theorem gp_C_0_7 (E : gw_E p s m args c cc nL Ts own D g tG 83 ad A) (I : gw_I D (tC g ad) 83 ad A H0 st H locs) (hin : ∀ w ∈ u_ws RX7 TX7 9, w ∈ Ts) {index : Nat} (hl : Cond.fieldLink own index "ThrownSacks" "imageKept" "Z" ∈ Ts) {x : Int32} (hbl : gw_bl x = true) {st2 : gw_S} (he : st2 = wrI st 0 7 x) (hdg : decode cc pc = .ok (.putfield index, 3)) (kk : ∀ (H1 : Heap) (locs1 : List Loc), gw_I D (tC g ad) 83 ad A H0 st2 H1 locs1 → W p l e R s m args below meth c H1 locs1 cells slots Q (F0 m (pc + 3) ls (rest))) : W p l e R s m args below meth c H locs cells slots Q (F0 m pc ls (.int x :: .ref (ad 0) :: rest)) := by
  subst he
  exact gw_put E I 0 7 (by decide) rfl rfl (by decide) hin hl rfl rfl rfl tyX7 tyX7_ok nmX7 rfl (ty := .boolean) (tyX7_ok 7 (by decide)) (gw_nar hbl) (gw_fit hbl) (Nat.le_of_ble_eq_true rfl) (by rw [wrI_self]; exact rfl) (wrI_off st 0 7 x) hdg kk
theorem gf_C_0_8 (E : gw_E p s m args c cc nL Ts own D g tG 83 ad A) (I : gw_I D (tC g ad) 83 ad A H0 st H locs) (hin : ∀ w ∈ u_ws RX7 TX7 9, w ∈ Ts) {index : Nat} (hl : Cond.fieldLink own index "ThrownSacks" "floorsRead" "I" ∈ Ts) (hdg : decode cc pc = .ok (.getfield index, 3)) (kk : W p l e R s m args below meth c H locs cells slots Q (F0 m (pc + 3) ls (.int (rdI st 0 8) :: rest))) : W p l e R s m args below meth c H locs cells slots Q (F0 m pc ls (.ref (ad 0) :: rest)) :=
  gw_get E I 0 8 (by decide) rfl rfl (by decide) hin hl rfl rfl rfl rfl hdg kk
theorem gp_C_0_8 (E : gw_E p s m args c cc nL Ts own D g tG 83 ad A) (I : gw_I D (tC g ad) 83 ad A H0 st H locs) (hin : ∀ w ∈ u_ws RX7 TX7 9, w ∈ Ts) {index : Nat} (hl : Cond.fieldLink own index "ThrownSacks" "floorsRead" "I" ∈ Ts) {x : Int32} {st2 : gw_S} (he : st2 = wrI st 0 8 x) (hdg : decode cc pc = .ok (.putfield index, 3)) (kk : ∀ (H1 : Heap) (locs1 : List Loc), gw_I D (tC g ad) 83 ad A H0 st2 H1 locs1 → W p l e R s m args below meth c H1 locs1 cells slots Q (F0 m (pc + 3) ls (rest))) : W p l e R s m args below meth c H locs cells slots Q (F0 m pc ls (.int x :: .ref (ad 0) :: rest)) := by
  subst he
  exact gw_put E I 0 8 (by decide) rfl rfl (by decide) hin hl rfl rfl rfl tyX7 tyX7_ok nmX7 rfl (ty := .int) (tyX7_ok 8 (by decide)) rfl rfl (Nat.le_of_ble_eq_true rfl) (by rw [wrI_self]; exact rfl) (wrI_off st 0 8 x) hdg kk
theorem gf_C_1_0 (E : gw_E p s m args c cc nL Ts own D g tG 83 ad A) (I : gw_I D (tC g ad) 83 ad A H0 st H locs) (hin : ∀ w ∈ u_ws RX1 TX1 2, w ∈ Ts) {index : Nat} (hl : Cond.fieldLink own index "ThrownSacks$Page" "codes" "[I" ∈ Ts) (hdg : decode cc pc = .ok (.getfield index, 3)) (kk : W p l e R s m args below meth c H locs cells slots Q (F0 m (pc + 3) ls (.ref (ad 2) :: rest))) : W p l e R s m args below meth c H locs cells slots Q (F0 m pc ls (.ref (ad 1) :: rest)) :=
  gw_get E I 1 0 (by decide) rfl rfl (by decide) hin hl rfl rfl rfl rfl hdg kk
theorem gf_C_1_1 (E : gw_E p s m args c cc nL Ts own D g tG 83 ad A) (I : gw_I D (tC g ad) 83 ad A H0 st H locs) (hin : ∀ w ∈ u_ws RX1 TX1 2, w ∈ Ts) {index : Nat} (hl : Cond.fieldLink own index "ThrownSacks$Page" "size" "I" ∈ Ts) (hdg : decode cc pc = .ok (.getfield index, 3)) (kk : W p l e R s m args below meth c H locs cells slots Q (F0 m (pc + 3) ls (.int (rdI st 1 1) :: rest))) : W p l e R s m args below meth c H locs cells slots Q (F0 m pc ls (.ref (ad 1) :: rest)) :=
  gw_get E I 1 1 (by decide) rfl rfl (by decide) hin hl rfl rfl rfl rfl hdg kk
theorem gp_C_1_1 (E : gw_E p s m args c cc nL Ts own D g tG 83 ad A) (I : gw_I D (tC g ad) 83 ad A H0 st H locs) (hin : ∀ w ∈ u_ws RX1 TX1 2, w ∈ Ts) {index : Nat} (hl : Cond.fieldLink own index "ThrownSacks$Page" "size" "I" ∈ Ts) {x : Int32} {st2 : gw_S} (he : st2 = wrI st 1 1 x) (hdg : decode cc pc = .ok (.putfield index, 3)) (kk : ∀ (H1 : Heap) (locs1 : List Loc), gw_I D (tC g ad) 83 ad A H0 st2 H1 locs1 → W p l e R s m args below meth c H1 locs1 cells slots Q (F0 m (pc + 3) ls (rest))) : W p l e R s m args below meth c H locs cells slots Q (F0 m pc ls (.int x :: .ref (ad 1) :: rest)) := by
  subst he
  exact gw_put E I 1 1 (by decide) rfl rfl (by decide) hin hl rfl rfl rfl tyX1 tyX1_ok nmX1 rfl (ty := .int) (tyX1_ok 1 (by decide)) rfl rfl (Nat.le_of_ble_eq_true rfl) (by rw [wrI_self]; exact rfl) (wrI_off st 1 1 x) hdg kk
theorem gf_C_3_0 (E : gw_E p s m args c cc nL Ts own D g tG 83 ad A) (I : gw_I D (tC g ad) 83 ad A H0 st H locs) (hin : ∀ w ∈ u_ws RX2 TX2 4, w ∈ Ts) {index : Nat} (hl : Cond.fieldLink own index "ThrownSacks$Plan" "yards" "[I" ∈ Ts) (hdg : decode cc pc = .ok (.getfield index, 3)) (kk : W p l e R s m args below meth c H locs cells slots Q (F0 m (pc + 3) ls (.ref (ad 4) :: rest))) : W p l e R s m args below meth c H locs cells slots Q (F0 m pc ls (.ref (ad 3) :: rest)) :=
  gw_get E I 3 0 (by decide) rfl rfl (by decide) hin hl rfl rfl rfl rfl hdg kk
theorem gf_C_3_1 (E : gw_E p s m args c cc nL Ts own D g tG 83 ad A) (I : gw_I D (tC g ad) 83 ad A H0 st H locs) (hin : ∀ w ∈ u_ws RX2 TX2 4, w ∈ Ts) {index : Nat} (hl : Cond.fieldLink own index "ThrownSacks$Plan" "room" "[I" ∈ Ts) (hdg : decode cc pc = .ok (.getfield index, 3)) (kk : W p l e R s m args below meth c H locs cells slots Q (F0 m (pc + 3) ls (.ref (ad 5) :: rest))) : W p l e R s m args below meth c H locs cells slots Q (F0 m pc ls (.ref (ad 3) :: rest)) :=
  gw_get E I 3 1 (by decide) rfl rfl (by decide) hin hl rfl rfl rfl rfl hdg kk
theorem gf_C_3_2 (E : gw_E p s m args c cc nL Ts own D g tG 83 ad A) (I : gw_I D (tC g ad) 83 ad A H0 st H locs) (hin : ∀ w ∈ u_ws RX2 TX2 4, w ∈ Ts) {index : Nat} (hl : Cond.fieldLink own index "ThrownSacks$Plan" "often" "[I" ∈ Ts) (hdg : decode cc pc = .ok (.getfield index, 3)) (kk : W p l e R s m args below meth c H locs cells slots Q (F0 m (pc + 3) ls (.ref (ad 6) :: rest))) : W p l e R s m args below meth c H locs cells slots Q (F0 m pc ls (.ref (ad 3) :: rest)) :=
  gw_get E I 3 2 (by decide) rfl rfl (by decide) hin hl rfl rfl rfl rfl hdg kk
theorem gf_C_3_3 (E : gw_E p s m args c cc nL Ts own D g tG 83 ad A) (I : gw_I D (tC g ad) 83 ad A H0 st H locs) (hin : ∀ w ∈ u_ws RX2 TX2 4, w ∈ Ts) {index : Nat} (hl : Cond.fieldLink own index "ThrownSacks$Plan" "hooks" "I" ∈ Ts) (hdg : decode cc pc = .ok (.getfield index, 3)) (kk : W p l e R s m args below meth c H locs cells slots Q (F0 m (pc + 3) ls (.int (rdI st 3 3) :: rest))) : W p l e R s m args below meth c H locs cells slots Q (F0 m pc ls (.ref (ad 3) :: rest)) :=
  gw_get E I 3 3 (by decide) rfl rfl (by decide) hin hl rfl rfl rfl rfl hdg kk
theorem gp_C_3_3 (E : gw_E p s m args c cc nL Ts own D g tG 83 ad A) (I : gw_I D (tC g ad) 83 ad A H0 st H locs) (hin : ∀ w ∈ u_ws RX2 TX2 4, w ∈ Ts) {index : Nat} (hl : Cond.fieldLink own index "ThrownSacks$Plan" "hooks" "I" ∈ Ts) {x : Int32} {st2 : gw_S} (he : st2 = wrI st 3 3 x) (hdg : decode cc pc = .ok (.putfield index, 3)) (kk : ∀ (H1 : Heap) (locs1 : List Loc), gw_I D (tC g ad) 83 ad A H0 st2 H1 locs1 → W p l e R s m args below meth c H1 locs1 cells slots Q (F0 m (pc + 3) ls (rest))) : W p l e R s m args below meth c H locs cells slots Q (F0 m pc ls (.int x :: .ref (ad 3) :: rest)) := by
  subst he
  exact gw_put E I 3 3 (by decide) rfl rfl (by decide) hin hl rfl rfl rfl tyX2 tyX2_ok nmX2 rfl (ty := .int) (tyX2_ok 3 (by decide)) rfl rfl (Nat.le_of_ble_eq_true rfl) (by rw [wrI_self]; exact rfl) (wrI_off st 3 3 x) hdg kk
theorem gf_C_7_0 (E : gw_E p s m args c cc nL Ts own D g tG 83 ad A) (I : gw_I D (tC g ad) 83 ad A H0 st H locs) (hin : ∀ w ∈ u_ws RX4 TX4 8, w ∈ Ts) {index : Nat} (hl : Cond.fieldLink own index "ThrownSacks$Standing" "towns" "[I" ∈ Ts) (hdg : decode cc pc = .ok (.getfield index, 3)) (kk : W p l e R s m args below meth c H locs cells slots Q (F0 m (pc + 3) ls (.ref (ad 8) :: rest))) : W p l e R s m args below meth c H locs cells slots Q (F0 m pc ls (.ref (ad 7) :: rest)) :=
  gw_get E I 7 0 (by decide) rfl rfl (by decide) hin hl rfl rfl rfl rfl hdg kk
theorem gf_C_7_1 (E : gw_E p s m args c cc nL Ts own D g tG 83 ad A) (I : gw_I D (tC g ad) 83 ad A H0 st H locs) (hin : ∀ w ∈ u_ws RX4 TX4 8, w ∈ Ts) {index : Nat} (hl : Cond.fieldLink own index "ThrownSacks$Standing" "sacks" "[LThrownSacks$Row;" ∈ Ts) (hdg : decode cc pc = .ok (.getfield index, 3)) (kk : W p l e R s m args below meth c H locs cells slots Q (F0 m (pc + 3) ls (.ref (ad 9) :: rest))) : W p l e R s m args below meth c H locs cells slots Q (F0 m pc ls (.ref (ad 7) :: rest)) :=
  gw_get E I 7 1 (by decide) rfl rfl (by decide) hin hl rfl rfl rfl rfl hdg kk
theorem gf_C_7_2 (E : gw_E p s m args c cc nL Ts own D g tG 83 ad A) (I : gw_I D (tC g ad) 83 ad A H0 st H locs) (hin : ∀ w ∈ u_ws RX4 TX4 8, w ∈ Ts) {index : Nat} (hl : Cond.fieldLink own index "ThrownSacks$Standing" "belt" "LThrownSacks$Row;" ∈ Ts) (hdg : decode cc pc = .ok (.getfield index, 3)) (kk : W p l e R s m args below meth c H locs cells slots Q (F0 m (pc + 3) ls (.ref (ad 27) :: rest))) : W p l e R s m args below meth c H locs cells slots Q (F0 m pc ls (.ref (ad 7) :: rest)) :=
  gw_get E I 7 2 (by decide) rfl rfl (by decide) hin hl rfl rfl rfl rfl hdg kk
theorem gf_C_7_3 (E : gw_E p s m args c cc nL Ts own D g tG 83 ad A) (I : gw_I D (tC g ad) 83 ad A H0 st H locs) (hin : ∀ w ∈ u_ws RX4 TX4 8, w ∈ Ts) {index : Nat} (hl : Cond.fieldLink own index "ThrownSacks$Standing" "foundTowns" "[I" ∈ Ts) (hdg : decode cc pc = .ok (.getfield index, 3)) (kk : W p l e R s m args below meth c H locs cells slots Q (F0 m (pc + 3) ls (.ref (ad 10) :: rest))) : W p l e R s m args below meth c H locs cells slots Q (F0 m pc ls (.ref (ad 7) :: rest)) :=
  gw_get E I 7 3 (by decide) rfl rfl (by decide) hin hl rfl rfl rfl rfl hdg kk
theorem gf_C_7_4 (E : gw_E p s m args c cc nL Ts own D g tG 83 ad A) (I : gw_I D (tC g ad) 83 ad A H0 st H locs) (hin : ∀ w ∈ u_ws RX4 TX4 8, w ∈ Ts) {index : Nat} (hl : Cond.fieldLink own index "ThrownSacks$Standing" "foundIn" "[I" ∈ Ts) (hdg : decode cc pc = .ok (.getfield index, 3)) (kk : W p l e R s m args below meth c H locs cells slots Q (F0 m (pc + 3) ls (.ref (ad 11) :: rest))) : W p l e R s m args below meth c H locs cells slots Q (F0 m pc ls (.ref (ad 7) :: rest)) :=
  gw_get E I 7 4 (by decide) rfl rfl (by decide) hin hl rfl rfl rfl rfl hdg kk
theorem gf_C_7_5 (E : gw_E p s m args c cc nL Ts own D g tG 83 ad A) (I : gw_I D (tC g ad) 83 ad A H0 st H locs) (hin : ∀ w ∈ u_ws RX4 TX4 8, w ∈ Ts) {index : Nat} (hl : Cond.fieldLink own index "ThrownSacks$Standing" "found" "I" ∈ Ts) (hdg : decode cc pc = .ok (.getfield index, 3)) (kk : W p l e R s m args below meth c H locs cells slots Q (F0 m (pc + 3) ls (.int (rdI st 7 5) :: rest))) : W p l e R s m args below meth c H locs cells slots Q (F0 m pc ls (.ref (ad 7) :: rest)) :=
  gw_get E I 7 5 (by decide) rfl rfl (by decide) hin hl rfl rfl rfl rfl hdg kk
theorem gp_C_7_5 (E : gw_E p s m args c cc nL Ts own D g tG 83 ad A) (I : gw_I D (tC g ad) 83 ad A H0 st H locs) (hin : ∀ w ∈ u_ws RX4 TX4 8, w ∈ Ts) {index : Nat} (hl : Cond.fieldLink own index "ThrownSacks$Standing" "found" "I" ∈ Ts) {x : Int32} {st2 : gw_S} (he : st2 = wrI st 7 5 x) (hdg : decode cc pc = .ok (.putfield index, 3)) (kk : ∀ (H1 : Heap) (locs1 : List Loc), gw_I D (tC g ad) 83 ad A H0 st2 H1 locs1 → W p l e R s m args below meth c H1 locs1 cells slots Q (F0 m (pc + 3) ls (rest))) : W p l e R s m args below meth c H locs cells slots Q (F0 m pc ls (.int x :: .ref (ad 7) :: rest)) := by
  subst he
  exact gw_put E I 7 5 (by decide) rfl rfl (by decide) hin hl rfl rfl rfl tyX4 tyX4_ok nmX4 rfl (ty := .int) (tyX4_ok 5 (by decide)) rfl rfl (Nat.le_of_ble_eq_true rfl) (by rw [wrI_self]; exact rfl) (wrI_off st 7 5 x) hdg kk
theorem gf_C_7_6 (E : gw_E p s m args c cc nL Ts own D g tG 83 ad A) (I : gw_I D (tC g ad) 83 ad A H0 st H locs) (hin : ∀ w ∈ u_ws RX4 TX4 8, w ∈ Ts) {index : Nat} (hl : Cond.fieldLink own index "ThrownSacks$Standing" "seconds" "I" ∈ Ts) (hdg : decode cc pc = .ok (.getfield index, 3)) (kk : W p l e R s m args below meth c H locs cells slots Q (F0 m (pc + 3) ls (.int (rdI st 7 6) :: rest))) : W p l e R s m args below meth c H locs cells slots Q (F0 m pc ls (.ref (ad 7) :: rest)) :=
  gw_get E I 7 6 (by decide) rfl rfl (by decide) hin hl rfl rfl rfl rfl hdg kk
theorem gp_C_7_6 (E : gw_E p s m args c cc nL Ts own D g tG 83 ad A) (I : gw_I D (tC g ad) 83 ad A H0 st H locs) (hin : ∀ w ∈ u_ws RX4 TX4 8, w ∈ Ts) {index : Nat} (hl : Cond.fieldLink own index "ThrownSacks$Standing" "seconds" "I" ∈ Ts) {x : Int32} {st2 : gw_S} (he : st2 = wrI st 7 6 x) (hdg : decode cc pc = .ok (.putfield index, 3)) (kk : ∀ (H1 : Heap) (locs1 : List Loc), gw_I D (tC g ad) 83 ad A H0 st2 H1 locs1 → W p l e R s m args below meth c H1 locs1 cells slots Q (F0 m (pc + 3) ls (rest))) : W p l e R s m args below meth c H locs cells slots Q (F0 m pc ls (.int x :: .ref (ad 7) :: rest)) := by
  subst he
  exact gw_put E I 7 6 (by decide) rfl rfl (by decide) hin hl rfl rfl rfl tyX4 tyX4_ok nmX4 rfl (ty := .int) (tyX4_ok 6 (by decide)) rfl rfl (Nat.le_of_ble_eq_true rfl) (by rw [wrI_self]; exact rfl) (wrI_off st 7 6 x) hdg kk
theorem gf_C_7_7 (E : gw_E p s m args c cc nL Ts own D g tG 83 ad A) (I : gw_I D (tC g ad) 83 ad A H0 st H locs) (hin : ∀ w ∈ u_ws RX4 TX4 8, w ∈ Ts) {index : Nat} (hl : Cond.fieldLink own index "ThrownSacks$Standing" "harmed" "I" ∈ Ts) (hdg : decode cc pc = .ok (.getfield index, 3)) (kk : W p l e R s m args below meth c H locs cells slots Q (F0 m (pc + 3) ls (.int (rdI st 7 7) :: rest))) : W p l e R s m args below meth c H locs cells slots Q (F0 m pc ls (.ref (ad 7) :: rest)) :=
  gw_get E I 7 7 (by decide) rfl rfl (by decide) hin hl rfl rfl rfl rfl hdg kk
theorem gp_C_7_7 (E : gw_E p s m args c cc nL Ts own D g tG 83 ad A) (I : gw_I D (tC g ad) 83 ad A H0 st H locs) (hin : ∀ w ∈ u_ws RX4 TX4 8, w ∈ Ts) {index : Nat} (hl : Cond.fieldLink own index "ThrownSacks$Standing" "harmed" "I" ∈ Ts) {x : Int32} {st2 : gw_S} (he : st2 = wrI st 7 7 x) (hdg : decode cc pc = .ok (.putfield index, 3)) (kk : ∀ (H1 : Heap) (locs1 : List Loc), gw_I D (tC g ad) 83 ad A H0 st2 H1 locs1 → W p l e R s m args below meth c H1 locs1 cells slots Q (F0 m (pc + 3) ls (rest))) : W p l e R s m args below meth c H locs cells slots Q (F0 m pc ls (.int x :: .ref (ad 7) :: rest)) := by
  subst he
  exact gw_put E I 7 7 (by decide) rfl rfl (by decide) hin hl rfl rfl rfl tyX4 tyX4_ok nmX4 rfl (ty := .int) (tyX4_ok 7 (by decide)) rfl rfl (Nat.le_of_ble_eq_true rfl) (by rw [wrI_self]; exact rfl) (wrI_off st 7 7 x) hdg kk
theorem gf_C_12_0 (E : gw_E p s m args c cc nL Ts own D g tG 83 ad A) (I : gw_I D (tC g ad) 83 ad A H0 st H locs) (hin : ∀ w ∈ u_ws RX4 TX4 8, w ∈ Ts) {index : Nat} (hl : Cond.fieldLink own index "ThrownSacks$Standing" "towns" "[I" ∈ Ts) (hdg : decode cc pc = .ok (.getfield index, 3)) (kk : W p l e R s m args below meth c H locs cells slots Q (F0 m (pc + 3) ls (.ref (ad 13) :: rest))) : W p l e R s m args below meth c H locs cells slots Q (F0 m pc ls (.ref (ad 12) :: rest)) :=
  gw_get E I 12 0 (by decide) rfl rfl (by decide) hin hl rfl rfl rfl rfl hdg kk
theorem gf_C_12_1 (E : gw_E p s m args c cc nL Ts own D g tG 83 ad A) (I : gw_I D (tC g ad) 83 ad A H0 st H locs) (hin : ∀ w ∈ u_ws RX4 TX4 8, w ∈ Ts) {index : Nat} (hl : Cond.fieldLink own index "ThrownSacks$Standing" "sacks" "[LThrownSacks$Row;" ∈ Ts) (hdg : decode cc pc = .ok (.getfield index, 3)) (kk : W p l e R s m args below meth c H locs cells slots Q (F0 m (pc + 3) ls (.ref (ad 14) :: rest))) : W p l e R s m args below meth c H locs cells slots Q (F0 m pc ls (.ref (ad 12) :: rest)) :=
  gw_get E I 12 1 (by decide) rfl rfl (by decide) hin hl rfl rfl rfl rfl hdg kk
theorem gf_C_12_2 (E : gw_E p s m args c cc nL Ts own D g tG 83 ad A) (I : gw_I D (tC g ad) 83 ad A H0 st H locs) (hin : ∀ w ∈ u_ws RX4 TX4 8, w ∈ Ts) {index : Nat} (hl : Cond.fieldLink own index "ThrownSacks$Standing" "belt" "LThrownSacks$Row;" ∈ Ts) (hdg : decode cc pc = .ok (.getfield index, 3)) (kk : W p l e R s m args below meth c H locs cells slots Q (F0 m (pc + 3) ls (.ref (ad 55) :: rest))) : W p l e R s m args below meth c H locs cells slots Q (F0 m pc ls (.ref (ad 12) :: rest)) :=
  gw_get E I 12 2 (by decide) rfl rfl (by decide) hin hl rfl rfl rfl rfl hdg kk
theorem gf_C_12_3 (E : gw_E p s m args c cc nL Ts own D g tG 83 ad A) (I : gw_I D (tC g ad) 83 ad A H0 st H locs) (hin : ∀ w ∈ u_ws RX4 TX4 8, w ∈ Ts) {index : Nat} (hl : Cond.fieldLink own index "ThrownSacks$Standing" "foundTowns" "[I" ∈ Ts) (hdg : decode cc pc = .ok (.getfield index, 3)) (kk : W p l e R s m args below meth c H locs cells slots Q (F0 m (pc + 3) ls (.ref (ad 15) :: rest))) : W p l e R s m args below meth c H locs cells slots Q (F0 m pc ls (.ref (ad 12) :: rest)) :=
  gw_get E I 12 3 (by decide) rfl rfl (by decide) hin hl rfl rfl rfl rfl hdg kk
theorem gf_C_12_4 (E : gw_E p s m args c cc nL Ts own D g tG 83 ad A) (I : gw_I D (tC g ad) 83 ad A H0 st H locs) (hin : ∀ w ∈ u_ws RX4 TX4 8, w ∈ Ts) {index : Nat} (hl : Cond.fieldLink own index "ThrownSacks$Standing" "foundIn" "[I" ∈ Ts) (hdg : decode cc pc = .ok (.getfield index, 3)) (kk : W p l e R s m args below meth c H locs cells slots Q (F0 m (pc + 3) ls (.ref (ad 16) :: rest))) : W p l e R s m args below meth c H locs cells slots Q (F0 m pc ls (.ref (ad 12) :: rest)) :=
  gw_get E I 12 4 (by decide) rfl rfl (by decide) hin hl rfl rfl rfl rfl hdg kk
theorem gf_C_12_5 (E : gw_E p s m args c cc nL Ts own D g tG 83 ad A) (I : gw_I D (tC g ad) 83 ad A H0 st H locs) (hin : ∀ w ∈ u_ws RX4 TX4 8, w ∈ Ts) {index : Nat} (hl : Cond.fieldLink own index "ThrownSacks$Standing" "found" "I" ∈ Ts) (hdg : decode cc pc = .ok (.getfield index, 3)) (kk : W p l e R s m args below meth c H locs cells slots Q (F0 m (pc + 3) ls (.int (rdI st 12 5) :: rest))) : W p l e R s m args below meth c H locs cells slots Q (F0 m pc ls (.ref (ad 12) :: rest)) :=
  gw_get E I 12 5 (by decide) rfl rfl (by decide) hin hl rfl rfl rfl rfl hdg kk
theorem gp_C_12_5 (E : gw_E p s m args c cc nL Ts own D g tG 83 ad A) (I : gw_I D (tC g ad) 83 ad A H0 st H locs) (hin : ∀ w ∈ u_ws RX4 TX4 8, w ∈ Ts) {index : Nat} (hl : Cond.fieldLink own index "ThrownSacks$Standing" "found" "I" ∈ Ts) {x : Int32} {st2 : gw_S} (he : st2 = wrI st 12 5 x) (hdg : decode cc pc = .ok (.putfield index, 3)) (kk : ∀ (H1 : Heap) (locs1 : List Loc), gw_I D (tC g ad) 83 ad A H0 st2 H1 locs1 → W p l e R s m args below meth c H1 locs1 cells slots Q (F0 m (pc + 3) ls (rest))) : W p l e R s m args below meth c H locs cells slots Q (F0 m pc ls (.int x :: .ref (ad 12) :: rest)) := by
  subst he
  exact gw_put E I 12 5 (by decide) rfl rfl (by decide) hin hl rfl rfl rfl tyX4 tyX4_ok nmX4 rfl (ty := .int) (tyX4_ok 5 (by decide)) rfl rfl (Nat.le_of_ble_eq_true rfl) (by rw [wrI_self]; exact rfl) (wrI_off st 12 5 x) hdg kk
theorem gf_C_12_6 (E : gw_E p s m args c cc nL Ts own D g tG 83 ad A) (I : gw_I D (tC g ad) 83 ad A H0 st H locs) (hin : ∀ w ∈ u_ws RX4 TX4 8, w ∈ Ts) {index : Nat} (hl : Cond.fieldLink own index "ThrownSacks$Standing" "seconds" "I" ∈ Ts) (hdg : decode cc pc = .ok (.getfield index, 3)) (kk : W p l e R s m args below meth c H locs cells slots Q (F0 m (pc + 3) ls (.int (rdI st 12 6) :: rest))) : W p l e R s m args below meth c H locs cells slots Q (F0 m pc ls (.ref (ad 12) :: rest)) :=
  gw_get E I 12 6 (by decide) rfl rfl (by decide) hin hl rfl rfl rfl rfl hdg kk
theorem gp_C_12_6 (E : gw_E p s m args c cc nL Ts own D g tG 83 ad A) (I : gw_I D (tC g ad) 83 ad A H0 st H locs) (hin : ∀ w ∈ u_ws RX4 TX4 8, w ∈ Ts) {index : Nat} (hl : Cond.fieldLink own index "ThrownSacks$Standing" "seconds" "I" ∈ Ts) {x : Int32} {st2 : gw_S} (he : st2 = wrI st 12 6 x) (hdg : decode cc pc = .ok (.putfield index, 3)) (kk : ∀ (H1 : Heap) (locs1 : List Loc), gw_I D (tC g ad) 83 ad A H0 st2 H1 locs1 → W p l e R s m args below meth c H1 locs1 cells slots Q (F0 m (pc + 3) ls (rest))) : W p l e R s m args below meth c H locs cells slots Q (F0 m pc ls (.int x :: .ref (ad 12) :: rest)) := by
  subst he
  exact gw_put E I 12 6 (by decide) rfl rfl (by decide) hin hl rfl rfl rfl tyX4 tyX4_ok nmX4 rfl (ty := .int) (tyX4_ok 6 (by decide)) rfl rfl (Nat.le_of_ble_eq_true rfl) (by rw [wrI_self]; exact rfl) (wrI_off st 12 6 x) hdg kk
theorem gf_C_12_7 (E : gw_E p s m args c cc nL Ts own D g tG 83 ad A) (I : gw_I D (tC g ad) 83 ad A H0 st H locs) (hin : ∀ w ∈ u_ws RX4 TX4 8, w ∈ Ts) {index : Nat} (hl : Cond.fieldLink own index "ThrownSacks$Standing" "harmed" "I" ∈ Ts) (hdg : decode cc pc = .ok (.getfield index, 3)) (kk : W p l e R s m args below meth c H locs cells slots Q (F0 m (pc + 3) ls (.int (rdI st 12 7) :: rest))) : W p l e R s m args below meth c H locs cells slots Q (F0 m pc ls (.ref (ad 12) :: rest)) :=
  gw_get E I 12 7 (by decide) rfl rfl (by decide) hin hl rfl rfl rfl rfl hdg kk
theorem gp_C_12_7 (E : gw_E p s m args c cc nL Ts own D g tG 83 ad A) (I : gw_I D (tC g ad) 83 ad A H0 st H locs) (hin : ∀ w ∈ u_ws RX4 TX4 8, w ∈ Ts) {index : Nat} (hl : Cond.fieldLink own index "ThrownSacks$Standing" "harmed" "I" ∈ Ts) {x : Int32} {st2 : gw_S} (he : st2 = wrI st 12 7 x) (hdg : decode cc pc = .ok (.putfield index, 3)) (kk : ∀ (H1 : Heap) (locs1 : List Loc), gw_I D (tC g ad) 83 ad A H0 st2 H1 locs1 → W p l e R s m args below meth c H1 locs1 cells slots Q (F0 m (pc + 3) ls (rest))) : W p l e R s m args below meth c H locs cells slots Q (F0 m pc ls (.int x :: .ref (ad 12) :: rest)) := by
  subst he
  exact gw_put E I 12 7 (by decide) rfl rfl (by decide) hin hl rfl rfl rfl tyX4 tyX4_ok nmX4 rfl (ty := .int) (tyX4_ok 7 (by decide)) rfl rfl (Nat.le_of_ble_eq_true rfl) (by rw [wrI_self]; exact rfl) (wrI_off st 12 7 x) hdg kk
theorem gf_C_17_0 (E : gw_E p s m args c cc nL Ts own D g tG 83 ad A) (I : gw_I D (tC g ad) 83 ad A H0 st H locs) (hin : ∀ w ∈ u_ws RX0 TX0 4, w ∈ Ts) {index : Nat} (hl : Cond.fieldLink own index "ThrownSacks$Best" "towns" "[I" ∈ Ts) (hdg : decode cc pc = .ok (.getfield index, 3)) (kk : W p l e R s m args below meth c H locs cells slots Q (F0 m (pc + 3) ls (.ref (ad 18) :: rest))) : W p l e R s m args below meth c H locs cells slots Q (F0 m pc ls (.ref (ad 17) :: rest)) :=
  gw_get E I 17 0 (by decide) rfl rfl (by decide) hin hl rfl rfl rfl rfl hdg kk
theorem gf_C_17_1 (E : gw_E p s m args c cc nL Ts own D g tG 83 ad A) (I : gw_I D (tC g ad) 83 ad A H0 st H locs) (hin : ∀ w ∈ u_ws RX0 TX0 4, w ∈ Ts) {index : Nat} (hl : Cond.fieldLink own index "ThrownSacks$Best" "less" "[I" ∈ Ts) (hdg : decode cc pc = .ok (.getfield index, 3)) (kk : W p l e R s m args below meth c H locs cells slots Q (F0 m (pc + 3) ls (.ref (ad 19) :: rest))) : W p l e R s m args below meth c H locs cells slots Q (F0 m pc ls (.ref (ad 17) :: rest)) :=
  gw_get E I 17 1 (by decide) rfl rfl (by decide) hin hl rfl rfl rfl rfl hdg kk
theorem gf_C_17_2 (E : gw_E p s m args c cc nL Ts own D g tG 83 ad A) (I : gw_I D (tC g ad) 83 ad A H0 st H locs) (hin : ∀ w ∈ u_ws RX0 TX0 4, w ∈ Ts) {index : Nat} (hl : Cond.fieldLink own index "ThrownSacks$Best" "rest" "[I" ∈ Ts) (hdg : decode cc pc = .ok (.getfield index, 3)) (kk : W p l e R s m args below meth c H locs cells slots Q (F0 m (pc + 3) ls (.ref (ad 20) :: rest))) : W p l e R s m args below meth c H locs cells slots Q (F0 m pc ls (.ref (ad 17) :: rest)) :=
  gw_get E I 17 2 (by decide) rfl rfl (by decide) hin hl rfl rfl rfl rfl hdg kk
theorem gf_C_17_3 (E : gw_E p s m args c cc nL Ts own D g tG 83 ad A) (I : gw_I D (tC g ad) 83 ad A H0 st H locs) (hin : ∀ w ∈ u_ws RX0 TX0 4, w ∈ Ts) {index : Nat} (hl : Cond.fieldLink own index "ThrownSacks$Best" "total" "I" ∈ Ts) (hdg : decode cc pc = .ok (.getfield index, 3)) (kk : W p l e R s m args below meth c H locs cells slots Q (F0 m (pc + 3) ls (.int (rdI st 17 3) :: rest))) : W p l e R s m args below meth c H locs cells slots Q (F0 m pc ls (.ref (ad 17) :: rest)) :=
  gw_get E I 17 3 (by decide) rfl rfl (by decide) hin hl rfl rfl rfl rfl hdg kk
theorem gp_C_17_3 (E : gw_E p s m args c cc nL Ts own D g tG 83 ad A) (I : gw_I D (tC g ad) 83 ad A H0 st H locs) (hin : ∀ w ∈ u_ws RX0 TX0 4, w ∈ Ts) {index : Nat} (hl : Cond.fieldLink own index "ThrownSacks$Best" "total" "I" ∈ Ts) {x : Int32} {st2 : gw_S} (he : st2 = wrI st 17 3 x) (hdg : decode cc pc = .ok (.putfield index, 3)) (kk : ∀ (H1 : Heap) (locs1 : List Loc), gw_I D (tC g ad) 83 ad A H0 st2 H1 locs1 → W p l e R s m args below meth c H1 locs1 cells slots Q (F0 m (pc + 3) ls (rest))) : W p l e R s m args below meth c H locs cells slots Q (F0 m pc ls (.int x :: .ref (ad 17) :: rest)) := by
  subst he
  exact gw_put E I 17 3 (by decide) rfl rfl (by decide) hin hl rfl rfl rfl tyX0 tyX0_ok nmX0 rfl (ty := .int) (tyX0_ok 3 (by decide)) rfl rfl (Nat.le_of_ble_eq_true rfl) (by rw [wrI_self]; exact rfl) (wrI_off st 17 3 x) hdg kk
theorem gf_C_21_0 (E : gw_E p s m args c cc nL Ts own D g tG 83 ad A) (I : gw_I D (tC g ad) 83 ad A H0 st H locs) (hin : ∀ w ∈ u_ws RX6 TX6 5, w ∈ Ts) {index : Nat} (hl : Cond.fieldLink own index "ThrownSacks$Ways" "towns" "[I" ∈ Ts) (hdg : decode cc pc = .ok (.getfield index, 3)) (kk : W p l e R s m args below meth c H locs cells slots Q (F0 m (pc + 3) ls (.ref (ad 22) :: rest))) : W p l e R s m args below meth c H locs cells slots Q (F0 m pc ls (.ref (ad 21) :: rest)) :=
  gw_get E I 21 0 (by decide) rfl rfl (by decide) hin hl rfl rfl rfl rfl hdg kk
theorem gf_C_21_1 (E : gw_E p s m args c cc nL Ts own D g tG 83 ad A) (I : gw_I D (tC g ad) 83 ad A H0 st H locs) (hin : ∀ w ∈ u_ws RX6 TX6 5, w ∈ Ts) {index : Nat} (hl : Cond.fieldLink own index "ThrownSacks$Ways" "beyond" "[I" ∈ Ts) (hdg : decode cc pc = .ok (.getfield index, 3)) (kk : W p l e R s m args below meth c H locs cells slots Q (F0 m (pc + 3) ls (.ref (ad 23) :: rest))) : W p l e R s m args below meth c H locs cells slots Q (F0 m pc ls (.ref (ad 21) :: rest)) :=
  gw_get E I 21 1 (by decide) rfl rfl (by decide) hin hl rfl rfl rfl rfl hdg kk
theorem gf_C_21_2 (E : gw_E p s m args c cc nL Ts own D g tG 83 ad A) (I : gw_I D (tC g ad) 83 ad A H0 st H locs) (hin : ∀ w ∈ u_ws RX6 TX6 5, w ∈ Ts) {index : Nat} (hl : Cond.fieldLink own index "ThrownSacks$Ways" "places" "[I" ∈ Ts) (hdg : decode cc pc = .ok (.getfield index, 3)) (kk : W p l e R s m args below meth c H locs cells slots Q (F0 m (pc + 3) ls (.ref (ad 24) :: rest))) : W p l e R s m args below meth c H locs cells slots Q (F0 m pc ls (.ref (ad 21) :: rest)) :=
  gw_get E I 21 2 (by decide) rfl rfl (by decide) hin hl rfl rfl rfl rfl hdg kk
theorem gf_C_21_3 (E : gw_E p s m args c cc nL Ts own D g tG 83 ad A) (I : gw_I D (tC g ad) 83 ad A H0 st H locs) (hin : ∀ w ∈ u_ws RX6 TX6 5, w ∈ Ts) {index : Nat} (hl : Cond.fieldLink own index "ThrownSacks$Ways" "counted" "Z" ∈ Ts) (hdg : decode cc pc = .ok (.getfield index, 3)) (kk : W p l e R s m args below meth c H locs cells slots Q (F0 m (pc + 3) ls (.int (rdI st 21 3) :: rest))) : W p l e R s m args below meth c H locs cells slots Q (F0 m pc ls (.ref (ad 21) :: rest)) :=
  gw_get E I 21 3 (by decide) rfl rfl (by decide) hin hl rfl rfl rfl rfl hdg kk
theorem gp_C_21_3 (E : gw_E p s m args c cc nL Ts own D g tG 83 ad A) (I : gw_I D (tC g ad) 83 ad A H0 st H locs) (hin : ∀ w ∈ u_ws RX6 TX6 5, w ∈ Ts) {index : Nat} (hl : Cond.fieldLink own index "ThrownSacks$Ways" "counted" "Z" ∈ Ts) {x : Int32} (hbl : gw_bl x = true) {st2 : gw_S} (he : st2 = wrI st 21 3 x) (hdg : decode cc pc = .ok (.putfield index, 3)) (kk : ∀ (H1 : Heap) (locs1 : List Loc), gw_I D (tC g ad) 83 ad A H0 st2 H1 locs1 → W p l e R s m args below meth c H1 locs1 cells slots Q (F0 m (pc + 3) ls (rest))) : W p l e R s m args below meth c H locs cells slots Q (F0 m pc ls (.int x :: .ref (ad 21) :: rest)) := by
  subst he
  exact gw_put E I 21 3 (by decide) rfl rfl (by decide) hin hl rfl rfl rfl tyX6 tyX6_ok nmX6 rfl (ty := .boolean) (tyX6_ok 3 (by decide)) (gw_nar hbl) (gw_fit hbl) (Nat.le_of_ble_eq_true rfl) (by rw [wrI_self]; exact rfl) (wrI_off st 21 3 x) hdg kk
theorem gf_C_21_4 (E : gw_E p s m args c cc nL Ts own D g tG 83 ad A) (I : gw_I D (tC g ad) 83 ad A H0 st H locs) (hin : ∀ w ∈ u_ws RX6 TX6 5, w ∈ Ts) {index : Nat} (hl : Cond.fieldLink own index "ThrownSacks$Ways" "many" "I" ∈ Ts) (hdg : decode cc pc = .ok (.getfield index, 3)) (kk : W p l e R s m args below meth c H locs cells slots Q (F0 m (pc + 3) ls (.int (rdI st 21 4) :: rest))) : W p l e R s m args below meth c H locs cells slots Q (F0 m pc ls (.ref (ad 21) :: rest)) :=
  gw_get E I 21 4 (by decide) rfl rfl (by decide) hin hl rfl rfl rfl rfl hdg kk
theorem gp_C_21_4 (E : gw_E p s m args c cc nL Ts own D g tG 83 ad A) (I : gw_I D (tC g ad) 83 ad A H0 st H locs) (hin : ∀ w ∈ u_ws RX6 TX6 5, w ∈ Ts) {index : Nat} (hl : Cond.fieldLink own index "ThrownSacks$Ways" "many" "I" ∈ Ts) {x : Int32} {st2 : gw_S} (he : st2 = wrI st 21 4 x) (hdg : decode cc pc = .ok (.putfield index, 3)) (kk : ∀ (H1 : Heap) (locs1 : List Loc), gw_I D (tC g ad) 83 ad A H0 st2 H1 locs1 → W p l e R s m args below meth c H1 locs1 cells slots Q (F0 m (pc + 3) ls (rest))) : W p l e R s m args below meth c H locs cells slots Q (F0 m pc ls (.int x :: .ref (ad 21) :: rest)) := by
  subst he
  exact gw_put E I 21 4 (by decide) rfl rfl (by decide) hin hl rfl rfl rfl tyX6 tyX6_ok nmX6 rfl (ty := .int) (tyX6_ok 4 (by decide)) rfl rfl (Nat.le_of_ble_eq_true rfl) (by rw [wrI_self]; exact rfl) (wrI_off st 21 4 x) hdg kk
theorem gf_C_25_0 (E : gw_E p s m args c cc nL Ts own D g tG 83 ad A) (I : gw_I D (tC g ad) 83 ad A H0 st H locs) (hin : ∀ w ∈ u_ws RX5 TX5 4, w ∈ Ts) {index : Nat} (hl : Cond.fieldLink own index "ThrownSacks$Trial" "held" "[I" ∈ Ts) (hdg : decode cc pc = .ok (.getfield index, 3)) (kk : W p l e R s m args below meth c H locs cells slots Q (F0 m (pc + 3) ls (.ref (ad 26) :: rest))) : W p l e R s m args below meth c H locs cells slots Q (F0 m pc ls (.ref (ad 25) :: rest)) :=
  gw_get E I 25 0 (by decide) rfl rfl (by decide) hin hl rfl rfl rfl rfl hdg kk
theorem gf_C_25_1 (E : gw_E p s m args c cc nL Ts own D g tG 83 ad A) (I : gw_I D (tC g ad) 83 ad A H0 st H locs) (hin : ∀ w ∈ u_ws RX5 TX5 4, w ∈ Ts) {index : Nat} (hl : Cond.fieldLink own index "ThrownSacks$Trial" "seed" "I" ∈ Ts) (hdg : decode cc pc = .ok (.getfield index, 3)) (kk : W p l e R s m args below meth c H locs cells slots Q (F0 m (pc + 3) ls (.int (rdI st 25 1) :: rest))) : W p l e R s m args below meth c H locs cells slots Q (F0 m pc ls (.ref (ad 25) :: rest)) :=
  gw_get E I 25 1 (by decide) rfl rfl (by decide) hin hl rfl rfl rfl rfl hdg kk
theorem gp_C_25_1 (E : gw_E p s m args c cc nL Ts own D g tG 83 ad A) (I : gw_I D (tC g ad) 83 ad A H0 st H locs) (hin : ∀ w ∈ u_ws RX5 TX5 4, w ∈ Ts) {index : Nat} (hl : Cond.fieldLink own index "ThrownSacks$Trial" "seed" "I" ∈ Ts) {x : Int32} {st2 : gw_S} (he : st2 = wrI st 25 1 x) (hdg : decode cc pc = .ok (.putfield index, 3)) (kk : ∀ (H1 : Heap) (locs1 : List Loc), gw_I D (tC g ad) 83 ad A H0 st2 H1 locs1 → W p l e R s m args below meth c H1 locs1 cells slots Q (F0 m (pc + 3) ls (rest))) : W p l e R s m args below meth c H locs cells slots Q (F0 m pc ls (.int x :: .ref (ad 25) :: rest)) := by
  subst he
  exact gw_put E I 25 1 (by decide) rfl rfl (by decide) hin hl rfl rfl rfl tyX5 tyX5_ok nmX5 rfl (ty := .int) (tyX5_ok 1 (by decide)) rfl rfl (Nat.le_of_ble_eq_true rfl) (by rw [wrI_self]; exact rfl) (wrI_off st 25 1 x) hdg kk
theorem gf_C_25_2 (E : gw_E p s m args c cc nL Ts own D g tG 83 ad A) (I : gw_I D (tC g ad) 83 ad A H0 st H locs) (hin : ∀ w ∈ u_ws RX5 TX5 4, w ∈ Ts) {index : Nat} (hl : Cond.fieldLink own index "ThrownSacks$Trial" "cameNext" "I" ∈ Ts) (hdg : decode cc pc = .ok (.getfield index, 3)) (kk : W p l e R s m args below meth c H locs cells slots Q (F0 m (pc + 3) ls (.int (rdI st 25 2) :: rest))) : W p l e R s m args below meth c H locs cells slots Q (F0 m pc ls (.ref (ad 25) :: rest)) :=
  gw_get E I 25 2 (by decide) rfl rfl (by decide) hin hl rfl rfl rfl rfl hdg kk
theorem gp_C_25_2 (E : gw_E p s m args c cc nL Ts own D g tG 83 ad A) (I : gw_I D (tC g ad) 83 ad A H0 st H locs) (hin : ∀ w ∈ u_ws RX5 TX5 4, w ∈ Ts) {index : Nat} (hl : Cond.fieldLink own index "ThrownSacks$Trial" "cameNext" "I" ∈ Ts) {x : Int32} {st2 : gw_S} (he : st2 = wrI st 25 2 x) (hdg : decode cc pc = .ok (.putfield index, 3)) (kk : ∀ (H1 : Heap) (locs1 : List Loc), gw_I D (tC g ad) 83 ad A H0 st2 H1 locs1 → W p l e R s m args below meth c H1 locs1 cells slots Q (F0 m (pc + 3) ls (rest))) : W p l e R s m args below meth c H locs cells slots Q (F0 m pc ls (.int x :: .ref (ad 25) :: rest)) := by
  subst he
  exact gw_put E I 25 2 (by decide) rfl rfl (by decide) hin hl rfl rfl rfl tyX5 tyX5_ok nmX5 rfl (ty := .int) (tyX5_ok 2 (by decide)) rfl rfl (Nat.le_of_ble_eq_true rfl) (by rw [wrI_self]; exact rfl) (wrI_off st 25 2 x) hdg kk
theorem gf_C_25_3 (E : gw_E p s m args c cc nL Ts own D g tG 83 ad A) (I : gw_I D (tC g ad) 83 ad A H0 st H locs) (hin : ∀ w ∈ u_ws RX5 TX5 4, w ∈ Ts) {index : Nat} (hl : Cond.fieldLink own index "ThrownSacks$Trial" "layBeside" "I" ∈ Ts) (hdg : decode cc pc = .ok (.getfield index, 3)) (kk : W p l e R s m args below meth c H locs cells slots Q (F0 m (pc + 3) ls (.int (rdI st 25 3) :: rest))) : W p l e R s m args below meth c H locs cells slots Q (F0 m pc ls (.ref (ad 25) :: rest)) :=
  gw_get E I 25 3 (by decide) rfl rfl (by decide) hin hl rfl rfl rfl rfl hdg kk
theorem gp_C_25_3 (E : gw_E p s m args c cc nL Ts own D g tG 83 ad A) (I : gw_I D (tC g ad) 83 ad A H0 st H locs) (hin : ∀ w ∈ u_ws RX5 TX5 4, w ∈ Ts) {index : Nat} (hl : Cond.fieldLink own index "ThrownSacks$Trial" "layBeside" "I" ∈ Ts) {x : Int32} {st2 : gw_S} (he : st2 = wrI st 25 3 x) (hdg : decode cc pc = .ok (.putfield index, 3)) (kk : ∀ (H1 : Heap) (locs1 : List Loc), gw_I D (tC g ad) 83 ad A H0 st2 H1 locs1 → W p l e R s m args below meth c H1 locs1 cells slots Q (F0 m (pc + 3) ls (rest))) : W p l e R s m args below meth c H locs cells slots Q (F0 m pc ls (.int x :: .ref (ad 25) :: rest)) := by
  subst he
  exact gw_put E I 25 3 (by decide) rfl rfl (by decide) hin hl rfl rfl rfl tyX5 tyX5_ok nmX5 rfl (ty := .int) (tyX5_ok 3 (by decide)) rfl rfl (Nat.le_of_ble_eq_true rfl) (by rw [wrI_self]; exact rfl) (wrI_off st 25 3 x) hdg kk
theorem gf_M_0_0 (E : gw_E p s m args c cc nL Ts own D g tG 23 ad A) (I : gw_I D (tM g ad) 23 ad A H0 st H locs) (hin : ∀ w ∈ u_ws RX8 TX8 42, w ∈ Ts) {index : Nat} (hl : Cond.fieldLink own index "ThrownSacksModel" "floors" "I" ∈ Ts) (hdg : decode cc pc = .ok (.getfield index, 3)) (kk : W p l e R s m args below meth c H locs cells slots Q (F0 m (pc + 3) ls (.int (rdI st 0 0) :: rest))) : W p l e R s m args below meth c H locs cells slots Q (F0 m pc ls (.ref (ad 0) :: rest)) :=
  gw_get E I 0 0 (by decide) rfl rfl (by decide) hin hl rfl rfl rfl rfl hdg kk
theorem gp_M_0_0 (E : gw_E p s m args c cc nL Ts own D g tG 23 ad A) (I : gw_I D (tM g ad) 23 ad A H0 st H locs) (hin : ∀ w ∈ u_ws RX8 TX8 42, w ∈ Ts) {index : Nat} (hl : Cond.fieldLink own index "ThrownSacksModel" "floors" "I" ∈ Ts) {x : Int32} {st2 : gw_S} (he : st2 = wrI st 0 0 x) (hdg : decode cc pc = .ok (.putfield index, 3)) (kk : ∀ (H1 : Heap) (locs1 : List Loc), gw_I D (tM g ad) 23 ad A H0 st2 H1 locs1 → W p l e R s m args below meth c H1 locs1 cells slots Q (F0 m (pc + 3) ls (rest))) : W p l e R s m args below meth c H locs cells slots Q (F0 m pc ls (.int x :: .ref (ad 0) :: rest)) := by
  subst he
  exact gw_put E I 0 0 (by decide) rfl rfl (by decide) hin hl rfl rfl rfl tyX8 tyX8_ok nmX8 rfl (ty := .int) (tyX8_ok 0 (by decide)) rfl rfl (Nat.le_of_ble_eq_true rfl) (by rw [wrI_self]; exact rfl) (wrI_off st 0 0 x) hdg kk
theorem gf_M_0_1 (E : gw_E p s m args c cc nL Ts own D g tG 23 ad A) (I : gw_I D (tM g ad) 23 ad A H0 st H locs) (hin : ∀ w ∈ u_ws RX8 TX8 42, w ∈ Ts) {index : Nat} (hl : Cond.fieldLink own index "ThrownSacksModel" "hooks" "I" ∈ Ts) (hdg : decode cc pc = .ok (.getfield index, 3)) (kk : W p l e R s m args below meth c H locs cells slots Q (F0 m (pc + 3) ls (.int (rdI st 0 1) :: rest))) : W p l e R s m args below meth c H locs cells slots Q (F0 m pc ls (.ref (ad 0) :: rest)) :=
  gw_get E I 0 1 (by decide) rfl rfl (by decide) hin hl rfl rfl rfl rfl hdg kk
theorem gp_M_0_1 (E : gw_E p s m args c cc nL Ts own D g tG 23 ad A) (I : gw_I D (tM g ad) 23 ad A H0 st H locs) (hin : ∀ w ∈ u_ws RX8 TX8 42, w ∈ Ts) {index : Nat} (hl : Cond.fieldLink own index "ThrownSacksModel" "hooks" "I" ∈ Ts) {x : Int32} {st2 : gw_S} (he : st2 = wrI st 0 1 x) (hdg : decode cc pc = .ok (.putfield index, 3)) (kk : ∀ (H1 : Heap) (locs1 : List Loc), gw_I D (tM g ad) 23 ad A H0 st2 H1 locs1 → W p l e R s m args below meth c H1 locs1 cells slots Q (F0 m (pc + 3) ls (rest))) : W p l e R s m args below meth c H locs cells slots Q (F0 m pc ls (.int x :: .ref (ad 0) :: rest)) := by
  subst he
  exact gw_put E I 0 1 (by decide) rfl rfl (by decide) hin hl rfl rfl rfl tyX8 tyX8_ok nmX8 rfl (ty := .int) (tyX8_ok 1 (by decide)) rfl rfl (Nat.le_of_ble_eq_true rfl) (by rw [wrI_self]; exact rfl) (wrI_off st 0 1 x) hdg kk
theorem gf_M_0_2 (E : gw_E p s m args c cc nL Ts own D g tG 23 ad A) (I : gw_I D (tM g ad) 23 ad A H0 st H locs) (hin : ∀ w ∈ u_ws RX8 TX8 42, w ∈ Ts) {index : Nat} (hl : Cond.fieldLink own index "ThrownSacksModel" "yardsOf" "[I" ∈ Ts) (hdg : decode cc pc = .ok (.getfield index, 3)) (kk : W p l e R s m args below meth c H locs cells slots Q (F0 m (pc + 3) ls (.ref (ad 1) :: rest))) : W p l e R s m args below meth c H locs cells slots Q (F0 m pc ls (.ref (ad 0) :: rest)) :=
  gw_get E I 0 2 (by decide) rfl rfl (by decide) hin hl rfl rfl rfl rfl hdg kk
theorem gf_M_0_3 (E : gw_E p s m args c cc nL Ts own D g tG 23 ad A) (I : gw_I D (tM g ad) 23 ad A H0 st H locs) (hin : ∀ w ∈ u_ws RX8 TX8 42, w ∈ Ts) {index : Nat} (hl : Cond.fieldLink own index "ThrownSacksModel" "roomOf" "[I" ∈ Ts) (hdg : decode cc pc = .ok (.getfield index, 3)) (kk : W p l e R s m args below meth c H locs cells slots Q (F0 m (pc + 3) ls (.ref (ad 2) :: rest))) : W p l e R s m args below meth c H locs cells slots Q (F0 m pc ls (.ref (ad 0) :: rest)) :=
  gw_get E I 0 3 (by decide) rfl rfl (by decide) hin hl rfl rfl rfl rfl hdg kk
theorem gf_M_0_4 (E : gw_E p s m args c cc nL Ts own D g tG 23 ad A) (I : gw_I D (tM g ad) 23 ad A H0 st H locs) (hin : ∀ w ∈ u_ws RX8 TX8 42, w ∈ Ts) {index : Nat} (hl : Cond.fieldLink own index "ThrownSacksModel" "oftenOf" "[I" ∈ Ts) (hdg : decode cc pc = .ok (.getfield index, 3)) (kk : W p l e R s m args below meth c H locs cells slots Q (F0 m (pc + 3) ls (.ref (ad 3) :: rest))) : W p l e R s m args below meth c H locs cells slots Q (F0 m pc ls (.ref (ad 0) :: rest)) :=
  gw_get E I 0 4 (by decide) rfl rfl (by decide) hin hl rfl rfl rfl rfl hdg kk
theorem gf_M_0_5 (E : gw_E p s m args c cc nL Ts own D g tG 23 ad A) (I : gw_I D (tM g ad) 23 ad A H0 st H locs) (hin : ∀ w ∈ u_ws RX8 TX8 42, w ∈ Ts) {index : Nat} (hl : Cond.fieldLink own index "ThrownSacksModel" "hangsOn" "[I" ∈ Ts) (hdg : decode cc pc = .ok (.getfield index, 3)) (kk : W p l e R s m args below meth c H locs cells slots Q (F0 m (pc + 3) ls (.ref (ad 4) :: rest))) : W p l e R s m args below meth c H locs cells slots Q (F0 m pc ls (.ref (ad 0) :: rest)) :=
  gw_get E I 0 5 (by decide) rfl rfl (by decide) hin hl rfl rfl rfl rfl hdg kk
theorem gf_M_0_6 (E : gw_E p s m args c cc nL Ts own D g tG 23 ad A) (I : gw_I D (tM g ad) 23 ad A H0 st H locs) (hin : ∀ w ∈ u_ws RX8 TX8 42, w ∈ Ts) {index : Nat} (hl : Cond.fieldLink own index "ThrownSacksModel" "manyIn" "[I" ∈ Ts) (hdg : decode cc pc = .ok (.getfield index, 3)) (kk : W p l e R s m args below meth c H locs cells slots Q (F0 m (pc + 3) ls (.ref (ad 5) :: rest))) : W p l e R s m args below meth c H locs cells slots Q (F0 m pc ls (.ref (ad 0) :: rest)) :=
  gw_get E I 0 6 (by decide) rfl rfl (by decide) hin hl rfl rfl rfl rfl hdg kk
theorem gf_M_0_7 (E : gw_E p s m args c cc nL Ts own D g tG 23 ad A) (I : gw_I D (tM g ad) 23 ad A H0 st H locs) (hin : ∀ w ∈ u_ws RX8 TX8 42, w ∈ Ts) {index : Nat} (hl : Cond.fieldLink own index "ThrownSacksModel" "wrongIn" "[I" ∈ Ts) (hdg : decode cc pc = .ok (.getfield index, 3)) (kk : W p l e R s m args below meth c H locs cells slots Q (F0 m (pc + 3) ls (.ref (ad 6) :: rest))) : W p l e R s m args below meth c H locs cells slots Q (F0 m pc ls (.ref (ad 0) :: rest)) :=
  gw_get E I 0 7 (by decide) rfl rfl (by decide) hin hl rfl rfl rfl rfl hdg kk
theorem gf_M_0_8 (E : gw_E p s m args c cc nL Ts own D g tG 23 ad A) (I : gw_I D (tM g ad) 23 ad A H0 st H locs) (hin : ∀ w ∈ u_ws RX8 TX8 42, w ∈ Ts) {index : Nat} (hl : Cond.fieldLink own index "ThrownSacksModel" "glassIn" "[I" ∈ Ts) (hdg : decode cc pc = .ok (.getfield index, 3)) (kk : W p l e R s m args below meth c H locs cells slots Q (F0 m (pc + 3) ls (.ref (ad 7) :: rest))) : W p l e R s m args below meth c H locs cells slots Q (F0 m pc ls (.ref (ad 0) :: rest)) :=
  gw_get E I 0 8 (by decide) rfl rfl (by decide) hin hl rfl rfl rfl rfl hdg kk
theorem gf_M_0_9 (E : gw_E p s m args c cc nL Ts own D g tG 23 ad A) (I : gw_I D (tM g ad) 23 ad A H0 st H locs) (hin : ∀ w ∈ u_ws RX8 TX8 42, w ∈ Ts) {index : Nat} (hl : Cond.fieldLink own index "ThrownSacksModel" "wholeIn" "[I" ∈ Ts) (hdg : decode cc pc = .ok (.getfield index, 3)) (kk : W p l e R s m args below meth c H locs cells slots Q (F0 m (pc + 3) ls (.ref (ad 8) :: rest))) : W p l e R s m args below meth c H locs cells slots Q (F0 m pc ls (.ref (ad 0) :: rest)) :=
  gw_get E I 0 9 (by decide) rfl rfl (by decide) hin hl rfl rfl rfl rfl hdg kk
theorem gf_M_0_10 (E : gw_E p s m args c cc nL Ts own D g tG 23 ad A) (I : gw_I D (tM g ad) 23 ad A H0 st H locs) (hin : ∀ w ∈ u_ws RX8 TX8 42, w ∈ Ts) {index : Nat} (hl : Cond.fieldLink own index "ThrownSacksModel" "onBelt" "I" ∈ Ts) (hdg : decode cc pc = .ok (.getfield index, 3)) (kk : W p l e R s m args below meth c H locs cells slots Q (F0 m (pc + 3) ls (.int (rdI st 0 10) :: rest))) : W p l e R s m args below meth c H locs cells slots Q (F0 m pc ls (.ref (ad 0) :: rest)) :=
  gw_get E I 0 10 (by decide) rfl rfl (by decide) hin hl rfl rfl rfl rfl hdg kk
theorem gp_M_0_10 (E : gw_E p s m args c cc nL Ts own D g tG 23 ad A) (I : gw_I D (tM g ad) 23 ad A H0 st H locs) (hin : ∀ w ∈ u_ws RX8 TX8 42, w ∈ Ts) {index : Nat} (hl : Cond.fieldLink own index "ThrownSacksModel" "onBelt" "I" ∈ Ts) {x : Int32} {st2 : gw_S} (he : st2 = wrI st 0 10 x) (hdg : decode cc pc = .ok (.putfield index, 3)) (kk : ∀ (H1 : Heap) (locs1 : List Loc), gw_I D (tM g ad) 23 ad A H0 st2 H1 locs1 → W p l e R s m args below meth c H1 locs1 cells slots Q (F0 m (pc + 3) ls (rest))) : W p l e R s m args below meth c H locs cells slots Q (F0 m pc ls (.int x :: .ref (ad 0) :: rest)) := by
  subst he
  exact gw_put E I 0 10 (by decide) rfl rfl (by decide) hin hl rfl rfl rfl tyX8 tyX8_ok nmX8 rfl (ty := .int) (tyX8_ok 10 (by decide)) rfl rfl (Nat.le_of_ble_eq_true rfl) (by rw [wrI_self]; exact rfl) (wrI_off st 0 10 x) hdg kk
theorem gf_M_0_11 (E : gw_E p s m args c cc nL Ts own D g tG 23 ad A) (I : gw_I D (tM g ad) 23 ad A H0 st H locs) (hin : ∀ w ∈ u_ws RX8 TX8 42, w ∈ Ts) {index : Nat} (hl : Cond.fieldLink own index "ThrownSacksModel" "beltKind" "[I" ∈ Ts) (hdg : decode cc pc = .ok (.getfield index, 3)) (kk : W p l e R s m args below meth c H locs cells slots Q (F0 m (pc + 3) ls (.ref (ad 9) :: rest))) : W p l e R s m args below meth c H locs cells slots Q (F0 m pc ls (.ref (ad 0) :: rest)) :=
  gw_get E I 0 11 (by decide) rfl rfl (by decide) hin hl rfl rfl rfl rfl hdg kk
theorem gf_M_0_12 (E : gw_E p s m args c cc nL Ts own D g tG 23 ad A) (I : gw_I D (tM g ad) 23 ad A H0 st H locs) (hin : ∀ w ∈ u_ws RX8 TX8 42, w ∈ Ts) {index : Nat} (hl : Cond.fieldLink own index "ThrownSacksModel" "beltTown" "[I" ∈ Ts) (hdg : decode cc pc = .ok (.getfield index, 3)) (kk : W p l e R s m args below meth c H locs cells slots Q (F0 m (pc + 3) ls (.ref (ad 10) :: rest))) : W p l e R s m args below meth c H locs cells slots Q (F0 m pc ls (.ref (ad 0) :: rest)) :=
  gw_get E I 0 12 (by decide) rfl rfl (by decide) hin hl rfl rfl rfl rfl hdg kk
theorem gf_M_0_13 (E : gw_E p s m args c cc nL Ts own D g tG 23 ad A) (I : gw_I D (tM g ad) 23 ad A H0 st H locs) (hin : ∀ w ∈ u_ws RX8 TX8 42, w ∈ Ts) {index : Nat} (hl : Cond.fieldLink own index "ThrownSacksModel" "seconds" "I" ∈ Ts) (hdg : decode cc pc = .ok (.getfield index, 3)) (kk : W p l e R s m args below meth c H locs cells slots Q (F0 m (pc + 3) ls (.int (rdI st 0 13) :: rest))) : W p l e R s m args below meth c H locs cells slots Q (F0 m pc ls (.ref (ad 0) :: rest)) :=
  gw_get E I 0 13 (by decide) rfl rfl (by decide) hin hl rfl rfl rfl rfl hdg kk
theorem gp_M_0_13 (E : gw_E p s m args c cc nL Ts own D g tG 23 ad A) (I : gw_I D (tM g ad) 23 ad A H0 st H locs) (hin : ∀ w ∈ u_ws RX8 TX8 42, w ∈ Ts) {index : Nat} (hl : Cond.fieldLink own index "ThrownSacksModel" "seconds" "I" ∈ Ts) {x : Int32} {st2 : gw_S} (he : st2 = wrI st 0 13 x) (hdg : decode cc pc = .ok (.putfield index, 3)) (kk : ∀ (H1 : Heap) (locs1 : List Loc), gw_I D (tM g ad) 23 ad A H0 st2 H1 locs1 → W p l e R s m args below meth c H1 locs1 cells slots Q (F0 m (pc + 3) ls (rest))) : W p l e R s m args below meth c H locs cells slots Q (F0 m pc ls (.int x :: .ref (ad 0) :: rest)) := by
  subst he
  exact gw_put E I 0 13 (by decide) rfl rfl (by decide) hin hl rfl rfl rfl tyX8 tyX8_ok nmX8 rfl (ty := .int) (tyX8_ok 13 (by decide)) rfl rfl (Nat.le_of_ble_eq_true rfl) (by rw [wrI_self]; exact rfl) (wrI_off st 0 13 x) hdg kk
theorem gf_M_0_14 (E : gw_E p s m args c cc nL Ts own D g tG 23 ad A) (I : gw_I D (tM g ad) 23 ad A H0 st H locs) (hin : ∀ w ∈ u_ws RX8 TX8 42, w ∈ Ts) {index : Nat} (hl : Cond.fieldLink own index "ThrownSacksModel" "harmed" "I" ∈ Ts) (hdg : decode cc pc = .ok (.getfield index, 3)) (kk : W p l e R s m args below meth c H locs cells slots Q (F0 m (pc + 3) ls (.int (rdI st 0 14) :: rest))) : W p l e R s m args below meth c H locs cells slots Q (F0 m pc ls (.ref (ad 0) :: rest)) :=
  gw_get E I 0 14 (by decide) rfl rfl (by decide) hin hl rfl rfl rfl rfl hdg kk
theorem gp_M_0_14 (E : gw_E p s m args c cc nL Ts own D g tG 23 ad A) (I : gw_I D (tM g ad) 23 ad A H0 st H locs) (hin : ∀ w ∈ u_ws RX8 TX8 42, w ∈ Ts) {index : Nat} (hl : Cond.fieldLink own index "ThrownSacksModel" "harmed" "I" ∈ Ts) {x : Int32} {st2 : gw_S} (he : st2 = wrI st 0 14 x) (hdg : decode cc pc = .ok (.putfield index, 3)) (kk : ∀ (H1 : Heap) (locs1 : List Loc), gw_I D (tM g ad) 23 ad A H0 st2 H1 locs1 → W p l e R s m args below meth c H1 locs1 cells slots Q (F0 m (pc + 3) ls (rest))) : W p l e R s m args below meth c H locs cells slots Q (F0 m pc ls (.int x :: .ref (ad 0) :: rest)) := by
  subst he
  exact gw_put E I 0 14 (by decide) rfl rfl (by decide) hin hl rfl rfl rfl tyX8 tyX8_ok nmX8 rfl (ty := .int) (tyX8_ok 14 (by decide)) rfl rfl (Nat.le_of_ble_eq_true rfl) (by rw [wrI_self]; exact rfl) (wrI_off st 0 14 x) hdg kk
theorem gf_M_0_15 (E : gw_E p s m args c cc nL Ts own D g tG 23 ad A) (I : gw_I D (tM g ad) 23 ad A H0 st H locs) (hin : ∀ w ∈ u_ws RX8 TX8 42, w ∈ Ts) {index : Nat} (hl : Cond.fieldLink own index "ThrownSacksModel" "found" "I" ∈ Ts) (hdg : decode cc pc = .ok (.getfield index, 3)) (kk : W p l e R s m args below meth c H locs cells slots Q (F0 m (pc + 3) ls (.int (rdI st 0 15) :: rest))) : W p l e R s m args below meth c H locs cells slots Q (F0 m pc ls (.ref (ad 0) :: rest)) :=
  gw_get E I 0 15 (by decide) rfl rfl (by decide) hin hl rfl rfl rfl rfl hdg kk
theorem gp_M_0_15 (E : gw_E p s m args c cc nL Ts own D g tG 23 ad A) (I : gw_I D (tM g ad) 23 ad A H0 st H locs) (hin : ∀ w ∈ u_ws RX8 TX8 42, w ∈ Ts) {index : Nat} (hl : Cond.fieldLink own index "ThrownSacksModel" "found" "I" ∈ Ts) {x : Int32} {st2 : gw_S} (he : st2 = wrI st 0 15 x) (hdg : decode cc pc = .ok (.putfield index, 3)) (kk : ∀ (H1 : Heap) (locs1 : List Loc), gw_I D (tM g ad) 23 ad A H0 st2 H1 locs1 → W p l e R s m args below meth c H1 locs1 cells slots Q (F0 m (pc + 3) ls (rest))) : W p l e R s m args below meth c H locs cells slots Q (F0 m pc ls (.int x :: .ref (ad 0) :: rest)) := by
  subst he
  exact gw_put E I 0 15 (by decide) rfl rfl (by decide) hin hl rfl rfl rfl tyX8 tyX8_ok nmX8 rfl (ty := .int) (tyX8_ok 15 (by decide)) rfl rfl (Nat.le_of_ble_eq_true rfl) (by rw [wrI_self]; exact rfl) (wrI_off st 0 15 x) hdg kk
theorem gf_M_0_16 (E : gw_E p s m args c cc nL Ts own D g tG 23 ad A) (I : gw_I D (tM g ad) 23 ad A H0 st H locs) (hin : ∀ w ∈ u_ws RX8 TX8 42, w ∈ Ts) {index : Nat} (hl : Cond.fieldLink own index "ThrownSacksModel" "foundTown" "[I" ∈ Ts) (hdg : decode cc pc = .ok (.getfield index, 3)) (kk : W p l e R s m args below meth c H locs cells slots Q (F0 m (pc + 3) ls (.ref (ad 11) :: rest))) : W p l e R s m args below meth c H locs cells slots Q (F0 m pc ls (.ref (ad 0) :: rest)) :=
  gw_get E I 0 16 (by decide) rfl rfl (by decide) hin hl rfl rfl rfl rfl hdg kk
theorem gf_M_0_17 (E : gw_E p s m args c cc nL Ts own D g tG 23 ad A) (I : gw_I D (tM g ad) 23 ad A H0 st H locs) (hin : ∀ w ∈ u_ws RX8 TX8 42, w ∈ Ts) {index : Nat} (hl : Cond.fieldLink own index "ThrownSacksModel" "foundIn" "[I" ∈ Ts) (hdg : decode cc pc = .ok (.getfield index, 3)) (kk : W p l e R s m args below meth c H locs cells slots Q (F0 m (pc + 3) ls (.ref (ad 12) :: rest))) : W p l e R s m args below meth c H locs cells slots Q (F0 m pc ls (.ref (ad 0) :: rest)) :=
  gw_get E I 0 17 (by decide) rfl rfl (by decide) hin hl rfl rfl rfl rfl hdg kk
theorem gf_M_0_18 (E : gw_E p s m args c cc nL Ts own D g tG 23 ad A) (I : gw_I D (tM g ad) 23 ad A H0 st H locs) (hin : ∀ w ∈ u_ws RX8 TX8 42, w ∈ Ts) {index : Nat} (hl : Cond.fieldLink own index "ThrownSacksModel" "pageLength" "I" ∈ Ts) (hdg : decode cc pc = .ok (.getfield index, 3)) (kk : W p l e R s m args below meth c H locs cells slots Q (F0 m (pc + 3) ls (.int (rdI st 0 18) :: rest))) : W p l e R s m args below meth c H locs cells slots Q (F0 m pc ls (.ref (ad 0) :: rest)) :=
  gw_get E I 0 18 (by decide) rfl rfl (by decide) hin hl rfl rfl rfl rfl hdg kk
theorem gp_M_0_18 (E : gw_E p s m args c cc nL Ts own D g tG 23 ad A) (I : gw_I D (tM g ad) 23 ad A H0 st H locs) (hin : ∀ w ∈ u_ws RX8 TX8 42, w ∈ Ts) {index : Nat} (hl : Cond.fieldLink own index "ThrownSacksModel" "pageLength" "I" ∈ Ts) {x : Int32} {st2 : gw_S} (he : st2 = wrI st 0 18 x) (hdg : decode cc pc = .ok (.putfield index, 3)) (kk : ∀ (H1 : Heap) (locs1 : List Loc), gw_I D (tM g ad) 23 ad A H0 st2 H1 locs1 → W p l e R s m args below meth c H1 locs1 cells slots Q (F0 m (pc + 3) ls (rest))) : W p l e R s m args below meth c H locs cells slots Q (F0 m pc ls (.int x :: .ref (ad 0) :: rest)) := by
  subst he
  exact gw_put E I 0 18 (by decide) rfl rfl (by decide) hin hl rfl rfl rfl tyX8 tyX8_ok nmX8 rfl (ty := .int) (tyX8_ok 18 (by decide)) rfl rfl (Nat.le_of_ble_eq_true rfl) (by rw [wrI_self]; exact rfl) (wrI_off st 0 18 x) hdg kk
theorem gf_M_0_19 (E : gw_E p s m args c cc nL Ts own D g tG 23 ad A) (I : gw_I D (tM g ad) 23 ad A H0 st H locs) (hin : ∀ w ∈ u_ws RX8 TX8 42, w ∈ Ts) {index : Nat} (hl : Cond.fieldLink own index "ThrownSacksModel" "page" "[B" ∈ Ts) (hdg : decode cc pc = .ok (.getfield index, 3)) (kk : W p l e R s m args below meth c H locs cells slots Q (F0 m (pc + 3) ls (.ref (ad 13) :: rest))) : W p l e R s m args below meth c H locs cells slots Q (F0 m pc ls (.ref (ad 0) :: rest)) :=
  gw_get E I 0 19 (by decide) rfl rfl (by decide) hin hl rfl rfl rfl rfl hdg kk
theorem gf_M_0_20 (E : gw_E p s m args c cc nL Ts own D g tG 23 ad A) (I : gw_I D (tM g ad) 23 ad A H0 st H locs) (hin : ∀ w ∈ u_ws RX8 TX8 42, w ∈ Ts) {index : Nat} (hl : Cond.fieldLink own index "ThrownSacksModel" "faultAt" "I" ∈ Ts) (hdg : decode cc pc = .ok (.getfield index, 3)) (kk : W p l e R s m args below meth c H locs cells slots Q (F0 m (pc + 3) ls (.int (rdI st 0 20) :: rest))) : W p l e R s m args below meth c H locs cells slots Q (F0 m pc ls (.ref (ad 0) :: rest)) :=
  gw_get E I 0 20 (by decide) rfl rfl (by decide) hin hl rfl rfl rfl rfl hdg kk
theorem gp_M_0_20 (E : gw_E p s m args c cc nL Ts own D g tG 23 ad A) (I : gw_I D (tM g ad) 23 ad A H0 st H locs) (hin : ∀ w ∈ u_ws RX8 TX8 42, w ∈ Ts) {index : Nat} (hl : Cond.fieldLink own index "ThrownSacksModel" "faultAt" "I" ∈ Ts) {x : Int32} {st2 : gw_S} (he : st2 = wrI st 0 20 x) (hdg : decode cc pc = .ok (.putfield index, 3)) (kk : ∀ (H1 : Heap) (locs1 : List Loc), gw_I D (tM g ad) 23 ad A H0 st2 H1 locs1 → W p l e R s m args below meth c H1 locs1 cells slots Q (F0 m (pc + 3) ls (rest))) : W p l e R s m args below meth c H locs cells slots Q (F0 m pc ls (.int x :: .ref (ad 0) :: rest)) := by
  subst he
  exact gw_put E I 0 20 (by decide) rfl rfl (by decide) hin hl rfl rfl rfl tyX8 tyX8_ok nmX8 rfl (ty := .int) (tyX8_ok 20 (by decide)) rfl rfl (Nat.le_of_ble_eq_true rfl) (by rw [wrI_self]; exact rfl) (wrI_off st 0 20 x) hdg kk
theorem gf_M_0_21 (E : gw_E p s m args c cc nL Ts own D g tG 23 ad A) (I : gw_I D (tM g ad) 23 ad A H0 st H locs) (hin : ∀ w ∈ u_ws RX8 TX8 42, w ∈ Ts) {index : Nat} (hl : Cond.fieldLink own index "ThrownSacksModel" "isWhole" "Z" ∈ Ts) (hdg : decode cc pc = .ok (.getfield index, 3)) (kk : W p l e R s m args below meth c H locs cells slots Q (F0 m (pc + 3) ls (.int (rdI st 0 21) :: rest))) : W p l e R s m args below meth c H locs cells slots Q (F0 m pc ls (.ref (ad 0) :: rest)) :=
  gw_get E I 0 21 (by decide) rfl rfl (by decide) hin hl rfl rfl rfl rfl hdg kk
theorem gp_M_0_21 (E : gw_E p s m args c cc nL Ts own D g tG 23 ad A) (I : gw_I D (tM g ad) 23 ad A H0 st H locs) (hin : ∀ w ∈ u_ws RX8 TX8 42, w ∈ Ts) {index : Nat} (hl : Cond.fieldLink own index "ThrownSacksModel" "isWhole" "Z" ∈ Ts) {x : Int32} (hbl : gw_bl x = true) {st2 : gw_S} (he : st2 = wrI st 0 21 x) (hdg : decode cc pc = .ok (.putfield index, 3)) (kk : ∀ (H1 : Heap) (locs1 : List Loc), gw_I D (tM g ad) 23 ad A H0 st2 H1 locs1 → W p l e R s m args below meth c H1 locs1 cells slots Q (F0 m (pc + 3) ls (rest))) : W p l e R s m args below meth c H locs cells slots Q (F0 m pc ls (.int x :: .ref (ad 0) :: rest)) := by
  subst he
  exact gw_put E I 0 21 (by decide) rfl rfl (by decide) hin hl rfl rfl rfl tyX8 tyX8_ok nmX8 rfl (ty := .boolean) (tyX8_ok 21 (by decide)) (gw_nar hbl) (gw_fit hbl) (Nat.le_of_ble_eq_true rfl) (by rw [wrI_self]; exact rfl) (wrI_off st 0 21 x) hdg kk
theorem gf_M_0_22 (E : gw_E p s m args c cc nL Ts own D g tG 23 ad A) (I : gw_I D (tM g ad) 23 ad A H0 st H locs) (hin : ∀ w ∈ u_ws RX8 TX8 42, w ∈ Ts) {index : Nat} (hl : Cond.fieldLink own index "ThrownSacksModel" "newMany" "I" ∈ Ts) (hdg : decode cc pc = .ok (.getfield index, 3)) (kk : W p l e R s m args below meth c H locs cells slots Q (F0 m (pc + 3) ls (.int (rdI st 0 22) :: rest))) : W p l e R s m args below meth c H locs cells slots Q (F0 m pc ls (.ref (ad 0) :: rest)) :=
  gw_get E I 0 22 (by decide) rfl rfl (by decide) hin hl rfl rfl rfl rfl hdg kk
theorem gp_M_0_22 (E : gw_E p s m args c cc nL Ts own D g tG 23 ad A) (I : gw_I D (tM g ad) 23 ad A H0 st H locs) (hin : ∀ w ∈ u_ws RX8 TX8 42, w ∈ Ts) {index : Nat} (hl : Cond.fieldLink own index "ThrownSacksModel" "newMany" "I" ∈ Ts) {x : Int32} {st2 : gw_S} (he : st2 = wrI st 0 22 x) (hdg : decode cc pc = .ok (.putfield index, 3)) (kk : ∀ (H1 : Heap) (locs1 : List Loc), gw_I D (tM g ad) 23 ad A H0 st2 H1 locs1 → W p l e R s m args below meth c H1 locs1 cells slots Q (F0 m (pc + 3) ls (rest))) : W p l e R s m args below meth c H locs cells slots Q (F0 m pc ls (.int x :: .ref (ad 0) :: rest)) := by
  subst he
  exact gw_put E I 0 22 (by decide) rfl rfl (by decide) hin hl rfl rfl rfl tyX8 tyX8_ok nmX8 rfl (ty := .int) (tyX8_ok 22 (by decide)) rfl rfl (Nat.le_of_ble_eq_true rfl) (by rw [wrI_self]; exact rfl) (wrI_off st 0 22 x) hdg kk
theorem gf_M_0_23 (E : gw_E p s m args c cc nL Ts own D g tG 23 ad A) (I : gw_I D (tM g ad) 23 ad A H0 st H locs) (hin : ∀ w ∈ u_ws RX8 TX8 42, w ∈ Ts) {index : Nat} (hl : Cond.fieldLink own index "ThrownSacksModel" "seedNow" "J" ∈ Ts) (hdg : decode cc pc = .ok (.getfield index, 3)) (kk : W p l e R s m args below meth c H locs cells slots Q (F0 m (pc + 3) ls (.long (rdL st 0 23) :: rest))) : W p l e R s m args below meth c H locs cells slots Q (F0 m pc ls (.ref (ad 0) :: rest)) :=
  gw_get E I 0 23 (by decide) rfl rfl (by decide) hin hl rfl rfl rfl rfl hdg kk
theorem gp_M_0_23 (E : gw_E p s m args c cc nL Ts own D g tG 23 ad A) (I : gw_I D (tM g ad) 23 ad A H0 st H locs) (hin : ∀ w ∈ u_ws RX8 TX8 42, w ∈ Ts) {index : Nat} (hl : Cond.fieldLink own index "ThrownSacksModel" "seedNow" "J" ∈ Ts) {x : Int64} {st2 : gw_S} (he : st2 = wrL st 0 23 x) (hdg : decode cc pc = .ok (.putfield index, 3)) (kk : ∀ (H1 : Heap) (locs1 : List Loc), gw_I D (tM g ad) 23 ad A H0 st2 H1 locs1 → W p l e R s m args below meth c H1 locs1 cells slots Q (F0 m (pc + 3) ls (rest))) : W p l e R s m args below meth c H locs cells slots Q (F0 m pc ls (.long x :: .ref (ad 0) :: rest)) := by
  subst he
  exact gw_put E I 0 23 (by decide) rfl rfl (by decide) hin hl rfl rfl rfl tyX8 tyX8_ok nmX8 rfl (ty := .long) (tyX8_ok 23 (by decide)) rfl rfl (Nat.le_of_ble_eq_true rfl) (by rw [wrL_self]; exact rfl) (wrL_off st 0 23 x) hdg kk
theorem gf_M_0_24 (E : gw_E p s m args c cc nL Ts own D g tG 23 ad A) (I : gw_I D (tM g ad) 23 ad A H0 st H locs) (hin : ∀ w ∈ u_ws RX8 TX8 42, w ∈ Ts) {index : Nat} (hl : Cond.fieldLink own index "ThrownSacksModel" "cameNext" "I" ∈ Ts) (hdg : decode cc pc = .ok (.getfield index, 3)) (kk : W p l e R s m args below meth c H locs cells slots Q (F0 m (pc + 3) ls (.int (rdI st 0 24) :: rest))) : W p l e R s m args below meth c H locs cells slots Q (F0 m pc ls (.ref (ad 0) :: rest)) :=
  gw_get E I 0 24 (by decide) rfl rfl (by decide) hin hl rfl rfl rfl rfl hdg kk
theorem gp_M_0_24 (E : gw_E p s m args c cc nL Ts own D g tG 23 ad A) (I : gw_I D (tM g ad) 23 ad A H0 st H locs) (hin : ∀ w ∈ u_ws RX8 TX8 42, w ∈ Ts) {index : Nat} (hl : Cond.fieldLink own index "ThrownSacksModel" "cameNext" "I" ∈ Ts) {x : Int32} {st2 : gw_S} (he : st2 = wrI st 0 24 x) (hdg : decode cc pc = .ok (.putfield index, 3)) (kk : ∀ (H1 : Heap) (locs1 : List Loc), gw_I D (tM g ad) 23 ad A H0 st2 H1 locs1 → W p l e R s m args below meth c H1 locs1 cells slots Q (F0 m (pc + 3) ls (rest))) : W p l e R s m args below meth c H locs cells slots Q (F0 m pc ls (.int x :: .ref (ad 0) :: rest)) := by
  subst he
  exact gw_put E I 0 24 (by decide) rfl rfl (by decide) hin hl rfl rfl rfl tyX8 tyX8_ok nmX8 rfl (ty := .int) (tyX8_ok 24 (by decide)) rfl rfl (Nat.le_of_ble_eq_true rfl) (by rw [wrI_self]; exact rfl) (wrI_off st 0 24 x) hdg kk
theorem gf_M_0_25 (E : gw_E p s m args c cc nL Ts own D g tG 23 ad A) (I : gw_I D (tM g ad) 23 ad A H0 st H locs) (hin : ∀ w ∈ u_ws RX8 TX8 42, w ∈ Ts) {index : Nat} (hl : Cond.fieldLink own index "ThrownSacksModel" "layBeside" "I" ∈ Ts) (hdg : decode cc pc = .ok (.getfield index, 3)) (kk : W p l e R s m args below meth c H locs cells slots Q (F0 m (pc + 3) ls (.int (rdI st 0 25) :: rest))) : W p l e R s m args below meth c H locs cells slots Q (F0 m pc ls (.ref (ad 0) :: rest)) :=
  gw_get E I 0 25 (by decide) rfl rfl (by decide) hin hl rfl rfl rfl rfl hdg kk
theorem gp_M_0_25 (E : gw_E p s m args c cc nL Ts own D g tG 23 ad A) (I : gw_I D (tM g ad) 23 ad A H0 st H locs) (hin : ∀ w ∈ u_ws RX8 TX8 42, w ∈ Ts) {index : Nat} (hl : Cond.fieldLink own index "ThrownSacksModel" "layBeside" "I" ∈ Ts) {x : Int32} {st2 : gw_S} (he : st2 = wrI st 0 25 x) (hdg : decode cc pc = .ok (.putfield index, 3)) (kk : ∀ (H1 : Heap) (locs1 : List Loc), gw_I D (tM g ad) 23 ad A H0 st2 H1 locs1 → W p l e R s m args below meth c H1 locs1 cells slots Q (F0 m (pc + 3) ls (rest))) : W p l e R s m args below meth c H locs cells slots Q (F0 m pc ls (.int x :: .ref (ad 0) :: rest)) := by
  subst he
  exact gw_put E I 0 25 (by decide) rfl rfl (by decide) hin hl rfl rfl rfl tyX8 tyX8_ok nmX8 rfl (ty := .int) (tyX8_ok 25 (by decide)) rfl rfl (Nat.le_of_ble_eq_true rfl) (by rw [wrI_self]; exact rfl) (wrI_off st 0 25 x) hdg kk
theorem gf_M_0_26 (E : gw_E p s m args c cc nL Ts own D g tG 23 ad A) (I : gw_I D (tM g ad) 23 ad A H0 st H locs) (hin : ∀ w ∈ u_ws RX8 TX8 42, w ∈ Ts) {index : Nat} (hl : Cond.fieldLink own index "ThrownSacksModel" "isKept" "Z" ∈ Ts) (hdg : decode cc pc = .ok (.getfield index, 3)) (kk : W p l e R s m args below meth c H locs cells slots Q (F0 m (pc + 3) ls (.int (rdI st 0 26) :: rest))) : W p l e R s m args below meth c H locs cells slots Q (F0 m pc ls (.ref (ad 0) :: rest)) :=
  gw_get E I 0 26 (by decide) rfl rfl (by decide) hin hl rfl rfl rfl rfl hdg kk
theorem gp_M_0_26 (E : gw_E p s m args c cc nL Ts own D g tG 23 ad A) (I : gw_I D (tM g ad) 23 ad A H0 st H locs) (hin : ∀ w ∈ u_ws RX8 TX8 42, w ∈ Ts) {index : Nat} (hl : Cond.fieldLink own index "ThrownSacksModel" "isKept" "Z" ∈ Ts) {x : Int32} (hbl : gw_bl x = true) {st2 : gw_S} (he : st2 = wrI st 0 26 x) (hdg : decode cc pc = .ok (.putfield index, 3)) (kk : ∀ (H1 : Heap) (locs1 : List Loc), gw_I D (tM g ad) 23 ad A H0 st2 H1 locs1 → W p l e R s m args below meth c H1 locs1 cells slots Q (F0 m (pc + 3) ls (rest))) : W p l e R s m args below meth c H locs cells slots Q (F0 m pc ls (.int x :: .ref (ad 0) :: rest)) := by
  subst he
  exact gw_put E I 0 26 (by decide) rfl rfl (by decide) hin hl rfl rfl rfl tyX8 tyX8_ok nmX8 rfl (ty := .boolean) (tyX8_ok 26 (by decide)) (gw_nar hbl) (gw_fit hbl) (Nat.le_of_ble_eq_true rfl) (by rw [wrI_self]; exact rfl) (wrI_off st 0 26 x) hdg kk
theorem gf_M_0_27 (E : gw_E p s m args c cc nL Ts own D g tG 23 ad A) (I : gw_I D (tM g ad) 23 ad A H0 st H locs) (hin : ∀ w ∈ u_ws RX8 TX8 42, w ∈ Ts) {index : Nat} (hl : Cond.fieldLink own index "ThrownSacksModel" "keptFloor" "I" ∈ Ts) (hdg : decode cc pc = .ok (.getfield index, 3)) (kk : W p l e R s m args below meth c H locs cells slots Q (F0 m (pc + 3) ls (.int (rdI st 0 27) :: rest))) : W p l e R s m args below meth c H locs cells slots Q (F0 m pc ls (.ref (ad 0) :: rest)) :=
  gw_get E I 0 27 (by decide) rfl rfl (by decide) hin hl rfl rfl rfl rfl hdg kk
theorem gp_M_0_27 (E : gw_E p s m args c cc nL Ts own D g tG 23 ad A) (I : gw_I D (tM g ad) 23 ad A H0 st H locs) (hin : ∀ w ∈ u_ws RX8 TX8 42, w ∈ Ts) {index : Nat} (hl : Cond.fieldLink own index "ThrownSacksModel" "keptFloor" "I" ∈ Ts) {x : Int32} {st2 : gw_S} (he : st2 = wrI st 0 27 x) (hdg : decode cc pc = .ok (.putfield index, 3)) (kk : ∀ (H1 : Heap) (locs1 : List Loc), gw_I D (tM g ad) 23 ad A H0 st2 H1 locs1 → W p l e R s m args below meth c H1 locs1 cells slots Q (F0 m (pc + 3) ls (rest))) : W p l e R s m args below meth c H locs cells slots Q (F0 m pc ls (.int x :: .ref (ad 0) :: rest)) := by
  subst he
  exact gw_put E I 0 27 (by decide) rfl rfl (by decide) hin hl rfl rfl rfl tyX8 tyX8_ok nmX8 rfl (ty := .int) (tyX8_ok 27 (by decide)) rfl rfl (Nat.le_of_ble_eq_true rfl) (by rw [wrI_self]; exact rfl) (wrI_off st 0 27 x) hdg kk
theorem gf_M_0_28 (E : gw_E p s m args c cc nL Ts own D g tG 23 ad A) (I : gw_I D (tM g ad) 23 ad A H0 st H locs) (hin : ∀ w ∈ u_ws RX8 TX8 42, w ∈ Ts) {index : Nat} (hl : Cond.fieldLink own index "ThrownSacksModel" "keptBelt" "I" ∈ Ts) (hdg : decode cc pc = .ok (.getfield index, 3)) (kk : W p l e R s m args below meth c H locs cells slots Q (F0 m (pc + 3) ls (.int (rdI st 0 28) :: rest))) : W p l e R s m args below meth c H locs cells slots Q (F0 m pc ls (.ref (ad 0) :: rest)) :=
  gw_get E I 0 28 (by decide) rfl rfl (by decide) hin hl rfl rfl rfl rfl hdg kk
theorem gp_M_0_28 (E : gw_E p s m args c cc nL Ts own D g tG 23 ad A) (I : gw_I D (tM g ad) 23 ad A H0 st H locs) (hin : ∀ w ∈ u_ws RX8 TX8 42, w ∈ Ts) {index : Nat} (hl : Cond.fieldLink own index "ThrownSacksModel" "keptBelt" "I" ∈ Ts) {x : Int32} {st2 : gw_S} (he : st2 = wrI st 0 28 x) (hdg : decode cc pc = .ok (.putfield index, 3)) (kk : ∀ (H1 : Heap) (locs1 : List Loc), gw_I D (tM g ad) 23 ad A H0 st2 H1 locs1 → W p l e R s m args below meth c H1 locs1 cells slots Q (F0 m (pc + 3) ls (rest))) : W p l e R s m args below meth c H locs cells slots Q (F0 m pc ls (.int x :: .ref (ad 0) :: rest)) := by
  subst he
  exact gw_put E I 0 28 (by decide) rfl rfl (by decide) hin hl rfl rfl rfl tyX8 tyX8_ok nmX8 rfl (ty := .int) (tyX8_ok 28 (by decide)) rfl rfl (Nat.le_of_ble_eq_true rfl) (by rw [wrI_self]; exact rfl) (wrI_off st 0 28 x) hdg kk
theorem gf_M_0_29 (E : gw_E p s m args c cc nL Ts own D g tG 23 ad A) (I : gw_I D (tM g ad) 23 ad A H0 st H locs) (hin : ∀ w ∈ u_ws RX8 TX8 42, w ∈ Ts) {index : Nat} (hl : Cond.fieldLink own index "ThrownSacksModel" "keptSeconds" "I" ∈ Ts) (hdg : decode cc pc = .ok (.getfield index, 3)) (kk : W p l e R s m args below meth c H locs cells slots Q (F0 m (pc + 3) ls (.int (rdI st 0 29) :: rest))) : W p l e R s m args below meth c H locs cells slots Q (F0 m pc ls (.ref (ad 0) :: rest)) :=
  gw_get E I 0 29 (by decide) rfl rfl (by decide) hin hl rfl rfl rfl rfl hdg kk
theorem gp_M_0_29 (E : gw_E p s m args c cc nL Ts own D g tG 23 ad A) (I : gw_I D (tM g ad) 23 ad A H0 st H locs) (hin : ∀ w ∈ u_ws RX8 TX8 42, w ∈ Ts) {index : Nat} (hl : Cond.fieldLink own index "ThrownSacksModel" "keptSeconds" "I" ∈ Ts) {x : Int32} {st2 : gw_S} (he : st2 = wrI st 0 29 x) (hdg : decode cc pc = .ok (.putfield index, 3)) (kk : ∀ (H1 : Heap) (locs1 : List Loc), gw_I D (tM g ad) 23 ad A H0 st2 H1 locs1 → W p l e R s m args below meth c H1 locs1 cells slots Q (F0 m (pc + 3) ls (rest))) : W p l e R s m args below meth c H locs cells slots Q (F0 m pc ls (.int x :: .ref (ad 0) :: rest)) := by
  subst he
  exact gw_put E I 0 29 (by decide) rfl rfl (by decide) hin hl rfl rfl rfl tyX8 tyX8_ok nmX8 rfl (ty := .int) (tyX8_ok 29 (by decide)) rfl rfl (Nat.le_of_ble_eq_true rfl) (by rw [wrI_self]; exact rfl) (wrI_off st 0 29 x) hdg kk
theorem gf_M_0_30 (E : gw_E p s m args c cc nL Ts own D g tG 23 ad A) (I : gw_I D (tM g ad) 23 ad A H0 st H locs) (hin : ∀ w ∈ u_ws RX8 TX8 42, w ∈ Ts) {index : Nat} (hl : Cond.fieldLink own index "ThrownSacksModel" "keptHarmed" "I" ∈ Ts) (hdg : decode cc pc = .ok (.getfield index, 3)) (kk : W p l e R s m args below meth c H locs cells slots Q (F0 m (pc + 3) ls (.int (rdI st 0 30) :: rest))) : W p l e R s m args below meth c H locs cells slots Q (F0 m pc ls (.ref (ad 0) :: rest)) :=
  gw_get E I 0 30 (by decide) rfl rfl (by decide) hin hl rfl rfl rfl rfl hdg kk
theorem gp_M_0_30 (E : gw_E p s m args c cc nL Ts own D g tG 23 ad A) (I : gw_I D (tM g ad) 23 ad A H0 st H locs) (hin : ∀ w ∈ u_ws RX8 TX8 42, w ∈ Ts) {index : Nat} (hl : Cond.fieldLink own index "ThrownSacksModel" "keptHarmed" "I" ∈ Ts) {x : Int32} {st2 : gw_S} (he : st2 = wrI st 0 30 x) (hdg : decode cc pc = .ok (.putfield index, 3)) (kk : ∀ (H1 : Heap) (locs1 : List Loc), gw_I D (tM g ad) 23 ad A H0 st2 H1 locs1 → W p l e R s m args below meth c H1 locs1 cells slots Q (F0 m (pc + 3) ls (rest))) : W p l e R s m args below meth c H locs cells slots Q (F0 m pc ls (.int x :: .ref (ad 0) :: rest)) := by
  subst he
  exact gw_put E I 0 30 (by decide) rfl rfl (by decide) hin hl rfl rfl rfl tyX8 tyX8_ok nmX8 rfl (ty := .int) (tyX8_ok 30 (by decide)) rfl rfl (Nat.le_of_ble_eq_true rfl) (by rw [wrI_self]; exact rfl) (wrI_off st 0 30 x) hdg kk
theorem gf_M_0_31 (E : gw_E p s m args c cc nL Ts own D g tG 23 ad A) (I : gw_I D (tM g ad) 23 ad A H0 st H locs) (hin : ∀ w ∈ u_ws RX8 TX8 42, w ∈ Ts) {index : Nat} (hl : Cond.fieldLink own index "ThrownSacksModel" "keptFound" "I" ∈ Ts) (hdg : decode cc pc = .ok (.getfield index, 3)) (kk : W p l e R s m args below meth c H locs cells slots Q (F0 m (pc + 3) ls (.int (rdI st 0 31) :: rest))) : W p l e R s m args below meth c H locs cells slots Q (F0 m pc ls (.ref (ad 0) :: rest)) :=
  gw_get E I 0 31 (by decide) rfl rfl (by decide) hin hl rfl rfl rfl rfl hdg kk
theorem gp_M_0_31 (E : gw_E p s m args c cc nL Ts own D g tG 23 ad A) (I : gw_I D (tM g ad) 23 ad A H0 st H locs) (hin : ∀ w ∈ u_ws RX8 TX8 42, w ∈ Ts) {index : Nat} (hl : Cond.fieldLink own index "ThrownSacksModel" "keptFound" "I" ∈ Ts) {x : Int32} {st2 : gw_S} (he : st2 = wrI st 0 31 x) (hdg : decode cc pc = .ok (.putfield index, 3)) (kk : ∀ (H1 : Heap) (locs1 : List Loc), gw_I D (tM g ad) 23 ad A H0 st2 H1 locs1 → W p l e R s m args below meth c H1 locs1 cells slots Q (F0 m (pc + 3) ls (rest))) : W p l e R s m args below meth c H locs cells slots Q (F0 m pc ls (.int x :: .ref (ad 0) :: rest)) := by
  subst he
  exact gw_put E I 0 31 (by decide) rfl rfl (by decide) hin hl rfl rfl rfl tyX8 tyX8_ok nmX8 rfl (ty := .int) (tyX8_ok 31 (by decide)) rfl rfl (Nat.le_of_ble_eq_true rfl) (by rw [wrI_self]; exact rfl) (wrI_off st 0 31 x) hdg kk
theorem gf_M_0_32 (E : gw_E p s m args c cc nL Ts own D g tG 23 ad A) (I : gw_I D (tM g ad) 23 ad A H0 st H locs) (hin : ∀ w ∈ u_ws RX8 TX8 42, w ∈ Ts) {index : Nat} (hl : Cond.fieldLink own index "ThrownSacksModel" "keptHangs" "[I" ∈ Ts) (hdg : decode cc pc = .ok (.getfield index, 3)) (kk : W p l e R s m args below meth c H locs cells slots Q (F0 m (pc + 3) ls (.ref (ad 14) :: rest))) : W p l e R s m args below meth c H locs cells slots Q (F0 m pc ls (.ref (ad 0) :: rest)) :=
  gw_get E I 0 32 (by decide) rfl rfl (by decide) hin hl rfl rfl rfl rfl hdg kk
theorem gf_M_0_33 (E : gw_E p s m args c cc nL Ts own D g tG 23 ad A) (I : gw_I D (tM g ad) 23 ad A H0 st H locs) (hin : ∀ w ∈ u_ws RX8 TX8 42, w ∈ Ts) {index : Nat} (hl : Cond.fieldLink own index "ThrownSacksModel" "keptMany" "[I" ∈ Ts) (hdg : decode cc pc = .ok (.getfield index, 3)) (kk : W p l e R s m args below meth c H locs cells slots Q (F0 m (pc + 3) ls (.ref (ad 15) :: rest))) : W p l e R s m args below meth c H locs cells slots Q (F0 m pc ls (.ref (ad 0) :: rest)) :=
  gw_get E I 0 33 (by decide) rfl rfl (by decide) hin hl rfl rfl rfl rfl hdg kk
theorem gf_M_0_34 (E : gw_E p s m args c cc nL Ts own D g tG 23 ad A) (I : gw_I D (tM g ad) 23 ad A H0 st H locs) (hin : ∀ w ∈ u_ws RX8 TX8 42, w ∈ Ts) {index : Nat} (hl : Cond.fieldLink own index "ThrownSacksModel" "keptWrong" "[I" ∈ Ts) (hdg : decode cc pc = .ok (.getfield index, 3)) (kk : W p l e R s m args below meth c H locs cells slots Q (F0 m (pc + 3) ls (.ref (ad 16) :: rest))) : W p l e R s m args below meth c H locs cells slots Q (F0 m pc ls (.ref (ad 0) :: rest)) :=
  gw_get E I 0 34 (by decide) rfl rfl (by decide) hin hl rfl rfl rfl rfl hdg kk
theorem gf_M_0_35 (E : gw_E p s m args c cc nL Ts own D g tG 23 ad A) (I : gw_I D (tM g ad) 23 ad A H0 st H locs) (hin : ∀ w ∈ u_ws RX8 TX8 42, w ∈ Ts) {index : Nat} (hl : Cond.fieldLink own index "ThrownSacksModel" "keptGlass" "[I" ∈ Ts) (hdg : decode cc pc = .ok (.getfield index, 3)) (kk : W p l e R s m args below meth c H locs cells slots Q (F0 m (pc + 3) ls (.ref (ad 17) :: rest))) : W p l e R s m args below meth c H locs cells slots Q (F0 m pc ls (.ref (ad 0) :: rest)) :=
  gw_get E I 0 35 (by decide) rfl rfl (by decide) hin hl rfl rfl rfl rfl hdg kk
theorem gf_M_0_36 (E : gw_E p s m args c cc nL Ts own D g tG 23 ad A) (I : gw_I D (tM g ad) 23 ad A H0 st H locs) (hin : ∀ w ∈ u_ws RX8 TX8 42, w ∈ Ts) {index : Nat} (hl : Cond.fieldLink own index "ThrownSacksModel" "keptWhole" "[I" ∈ Ts) (hdg : decode cc pc = .ok (.getfield index, 3)) (kk : W p l e R s m args below meth c H locs cells slots Q (F0 m (pc + 3) ls (.ref (ad 18) :: rest))) : W p l e R s m args below meth c H locs cells slots Q (F0 m pc ls (.ref (ad 0) :: rest)) :=
  gw_get E I 0 36 (by decide) rfl rfl (by decide) hin hl rfl rfl rfl rfl hdg kk
theorem gf_M_0_37 (E : gw_E p s m args c cc nL Ts own D g tG 23 ad A) (I : gw_I D (tM g ad) 23 ad A H0 st H locs) (hin : ∀ w ∈ u_ws RX8 TX8 42, w ∈ Ts) {index : Nat} (hl : Cond.fieldLink own index "ThrownSacksModel" "keptKind" "[I" ∈ Ts) (hdg : decode cc pc = .ok (.getfield index, 3)) (kk : W p l e R s m args below meth c H locs cells slots Q (F0 m (pc + 3) ls (.ref (ad 19) :: rest))) : W p l e R s m args below meth c H locs cells slots Q (F0 m pc ls (.ref (ad 0) :: rest)) :=
  gw_get E I 0 37 (by decide) rfl rfl (by decide) hin hl rfl rfl rfl rfl hdg kk
theorem gf_M_0_38 (E : gw_E p s m args c cc nL Ts own D g tG 23 ad A) (I : gw_I D (tM g ad) 23 ad A H0 st H locs) (hin : ∀ w ∈ u_ws RX8 TX8 42, w ∈ Ts) {index : Nat} (hl : Cond.fieldLink own index "ThrownSacksModel" "keptTown" "[I" ∈ Ts) (hdg : decode cc pc = .ok (.getfield index, 3)) (kk : W p l e R s m args below meth c H locs cells slots Q (F0 m (pc + 3) ls (.ref (ad 20) :: rest))) : W p l e R s m args below meth c H locs cells slots Q (F0 m pc ls (.ref (ad 0) :: rest)) :=
  gw_get E I 0 38 (by decide) rfl rfl (by decide) hin hl rfl rfl rfl rfl hdg kk
theorem gf_M_0_39 (E : gw_E p s m args c cc nL Ts own D g tG 23 ad A) (I : gw_I D (tM g ad) 23 ad A H0 st H locs) (hin : ∀ w ∈ u_ws RX8 TX8 42, w ∈ Ts) {index : Nat} (hl : Cond.fieldLink own index "ThrownSacksModel" "keptFoundTown" "[I" ∈ Ts) (hdg : decode cc pc = .ok (.getfield index, 3)) (kk : W p l e R s m args below meth c H locs cells slots Q (F0 m (pc + 3) ls (.ref (ad 21) :: rest))) : W p l e R s m args below meth c H locs cells slots Q (F0 m pc ls (.ref (ad 0) :: rest)) :=
  gw_get E I 0 39 (by decide) rfl rfl (by decide) hin hl rfl rfl rfl rfl hdg kk
theorem gf_M_0_40 (E : gw_E p s m args c cc nL Ts own D g tG 23 ad A) (I : gw_I D (tM g ad) 23 ad A H0 st H locs) (hin : ∀ w ∈ u_ws RX8 TX8 42, w ∈ Ts) {index : Nat} (hl : Cond.fieldLink own index "ThrownSacksModel" "keptFoundIn" "[I" ∈ Ts) (hdg : decode cc pc = .ok (.getfield index, 3)) (kk : W p l e R s m args below meth c H locs cells slots Q (F0 m (pc + 3) ls (.ref (ad 22) :: rest))) : W p l e R s m args below meth c H locs cells slots Q (F0 m pc ls (.ref (ad 0) :: rest)) :=
  gw_get E I 0 40 (by decide) rfl rfl (by decide) hin hl rfl rfl rfl rfl hdg kk
theorem gf_M_0_41 (E : gw_E p s m args c cc nL Ts own D g tG 23 ad A) (I : gw_I D (tM g ad) 23 ad A H0 st H locs) (hin : ∀ w ∈ u_ws RX8 TX8 42, w ∈ Ts) {index : Nat} (hl : Cond.fieldLink own index "ThrownSacksModel" "h" "J" ∈ Ts) (hdg : decode cc pc = .ok (.getfield index, 3)) (kk : W p l e R s m args below meth c H locs cells slots Q (F0 m (pc + 3) ls (.long (rdL st 0 41) :: rest))) : W p l e R s m args below meth c H locs cells slots Q (F0 m pc ls (.ref (ad 0) :: rest)) :=
  gw_get E I 0 41 (by decide) rfl rfl (by decide) hin hl rfl rfl rfl rfl hdg kk
theorem gp_M_0_41 (E : gw_E p s m args c cc nL Ts own D g tG 23 ad A) (I : gw_I D (tM g ad) 23 ad A H0 st H locs) (hin : ∀ w ∈ u_ws RX8 TX8 42, w ∈ Ts) {index : Nat} (hl : Cond.fieldLink own index "ThrownSacksModel" "h" "J" ∈ Ts) {x : Int64} {st2 : gw_S} (he : st2 = wrL st 0 41 x) (hdg : decode cc pc = .ok (.putfield index, 3)) (kk : ∀ (H1 : Heap) (locs1 : List Loc), gw_I D (tM g ad) 23 ad A H0 st2 H1 locs1 → W p l e R s m args below meth c H1 locs1 cells slots Q (F0 m (pc + 3) ls (rest))) : W p l e R s m args below meth c H locs cells slots Q (F0 m pc ls (.long x :: .ref (ad 0) :: rest)) := by
  subst he
  exact gw_put E I 0 41 (by decide) rfl rfl (by decide) hin hl rfl rfl rfl tyX8 tyX8_ok nmX8 rfl (ty := .long) (tyX8_ok 41 (by decide)) rfl rfl (Nat.le_of_ble_eq_true rfl) (by rw [wrL_self]; exact rfl) (wrL_off st 0 41 x) hdg kk
theorem gf_row_0 {q : Nat} (hq : gw_row q = true) (E : gw_E p s m args c cc nL Ts own D g tG 83 ad A) (I : gw_I D (tC g ad) 83 ad A H0 st H locs) (hin : ∀ w ∈ u_ws RX3 TX3 4, w ∈ Ts) {index : Nat} (hl : Cond.fieldLink own index "ThrownSacks$Row" "kinds" "[I" ∈ Ts) (hdg : decode cc pc = .ok (.getfield index, 3)) (kk : W p l e R s m args below meth c H locs cells slots Q (F0 m (pc + 3) ls (.ref (ad (q + 1)) :: rest))) : W p l e R s m args below meth c H locs cells slots Q (F0 m pc ls (.ref (ad q) :: rest)) :=
  gw_get E I q 0 (tC_lt0 hq) (tC_row hq) rfl (by decide) hin hl rfl rfl rfl rfl hdg kk
theorem gf_row_1 {q : Nat} (hq : gw_row q = true) (E : gw_E p s m args c cc nL Ts own D g tG 83 ad A) (I : gw_I D (tC g ad) 83 ad A H0 st H locs) (hin : ∀ w ∈ u_ws RX3 TX3 4, w ∈ Ts) {index : Nat} (hl : Cond.fieldLink own index "ThrownSacks$Row" "towns" "[I" ∈ Ts) (hdg : decode cc pc = .ok (.getfield index, 3)) (kk : W p l e R s m args below meth c H locs cells slots Q (F0 m (pc + 3) ls (.ref (ad (q + 2)) :: rest))) : W p l e R s m args below meth c H locs cells slots Q (F0 m pc ls (.ref (ad q) :: rest)) :=
  gw_get E I q 1 (tC_lt0 hq) (tC_row hq) rfl (by decide) hin hl rfl rfl rfl rfl hdg kk
theorem gf_row_2 {q : Nat} (hq : gw_row q = true) (E : gw_E p s m args c cc nL Ts own D g tG 83 ad A) (I : gw_I D (tC g ad) 83 ad A H0 st H locs) (hin : ∀ w ∈ u_ws RX3 TX3 4, w ∈ Ts) {index : Nat} (hl : Cond.fieldLink own index "ThrownSacks$Row" "harms" "[Z" ∈ Ts) (hdg : decode cc pc = .ok (.getfield index, 3)) (kk : W p l e R s m args below meth c H locs cells slots Q (F0 m (pc + 3) ls (.ref (ad (q + 3)) :: rest))) : W p l e R s m args below meth c H locs cells slots Q (F0 m pc ls (.ref (ad q) :: rest)) :=
  gw_get E I q 2 (tC_lt0 hq) (tC_row hq) rfl (by decide) hin hl rfl rfl rfl rfl hdg kk
theorem gf_row_3 {q : Nat} (hq : gw_row q = true) (E : gw_E p s m args c cc nL Ts own D g tG 83 ad A) (I : gw_I D (tC g ad) 83 ad A H0 st H locs) (hin : ∀ w ∈ u_ws RX3 TX3 4, w ∈ Ts) {index : Nat} (hl : Cond.fieldLink own index "ThrownSacks$Row" "size" "I" ∈ Ts) (hdg : decode cc pc = .ok (.getfield index, 3)) (kk : W p l e R s m args below meth c H locs cells slots Q (F0 m (pc + 3) ls (.int (rdI st q 3) :: rest))) : W p l e R s m args below meth c H locs cells slots Q (F0 m pc ls (.ref (ad q) :: rest)) :=
  gw_get E I q 3 (tC_lt0 hq) (tC_row hq) rfl (by decide) hin hl rfl rfl rfl rfl hdg kk
theorem gp_row_3 {q : Nat} (hq : gw_row q = true) (E : gw_E p s m args c cc nL Ts own D g tG 83 ad A) (I : gw_I D (tC g ad) 83 ad A H0 st H locs) (hin : ∀ w ∈ u_ws RX3 TX3 4, w ∈ Ts) {index : Nat} (hl : Cond.fieldLink own index "ThrownSacks$Row" "size" "I" ∈ Ts) {x : Int32} {st2 : gw_S} (he : st2 = wrI st q 3 x) (hdg : decode cc pc = .ok (.putfield index, 3)) (kk : ∀ (H1 : Heap) (locs1 : List Loc), gw_I D (tC g ad) 83 ad A H0 st2 H1 locs1 → W p l e R s m args below meth c H1 locs1 cells slots Q (F0 m (pc + 3) ls (rest))) : W p l e R s m args below meth c H locs cells slots Q (F0 m pc ls (.int x :: .ref (ad q) :: rest)) := by
  subst he
  exact gw_put E I q 3 (tC_lt0 hq) (tC_row hq) rfl (by decide) hin hl rfl rfl rfl tyX3 tyX3_ok nmX3 rfl (ty := .int) (tyX3_ok 3 (by decide)) rfl rfl (Nat.le_of_ble_eq_true rfl) (by rw [wrI_self]; exact tC_row hq) (wrI_off st q 3 x) hdg kk
end GWF
end
