-- ===== PART A: goes FIRST, ahead of the names: the tables' words, and 'selects' of the private methods out of them =====
/-- a private method of a class that the tables say can be made, by its rows of tables_1 -/
def lw_okq (q : MethodName × Nat) : Prop := (q.1.cls ≠ "java/lang/invoke/MethodHandle" ∧ q.1.cls ≠ "java/lang/invoke/VarHandle") ∧ Cond.instantiable q.1.cls q.2 ∈ tables_1 ∧ Cond.privateMethod q.1 ∈ tables_1 ∧ Cond.instanceMethod q.1 ∈ tables_1
theorem lw_p0 : lw_okq (⟨"FormDesigner", "putWord", "(I)V"⟩, 13) := ⟨⟨by decide +kernel, by decide +kernel⟩, List.mem_of_getElem? (i := 20) (by decide +kernel), List.mem_of_getElem? (i := 456) (by decide +kernel), List.mem_of_getElem? (i := 457) (by decide +kernel)⟩
theorem lw_p1 : lw_okq (⟨"FormDesigner$Tokens", "beginToken", "(II)V"⟩, 11) := ⟨⟨by decide +kernel, by decide +kernel⟩, List.mem_of_getElem? (i := 204) (by decide +kernel), List.mem_of_getElem? (i := 479) (by decide +kernel), List.mem_of_getElem? (i := 480) (by decide +kernel)⟩
theorem lw_p2 : lw_okq (⟨"FormDesigner$Tokens", "extend", "(I)V"⟩, 11) := ⟨⟨by decide +kernel, by decide +kernel⟩, List.mem_of_getElem? (i := 204) (by decide +kernel), List.mem_of_getElem? (i := 483) (by decide +kernel), List.mem_of_getElem? (i := 484) (by decide +kernel)⟩
theorem lw_p3 : lw_okq (⟨"FormDesigner$Tokens", "kindOf", "(IIJ)I"⟩, 11) := ⟨⟨by decide +kernel, by decide +kernel⟩, List.mem_of_getElem? (i := 204) (by decide +kernel), List.mem_of_getElem? (i := 488) (by decide +kernel), List.mem_of_getElem? (i := 489) (by decide +kernel)⟩
theorem lw_p4 : lw_okq (⟨"FormDesigner$Parser", "take", "(I)Z"⟩, 9) := ⟨⟨by decide +kernel, by decide +kernel⟩, List.mem_of_getElem? (i := 196) (by decide +kernel), List.mem_of_getElem? (i := 520) (by decide +kernel), List.mem_of_getElem? (i := 521) (by decide +kernel)⟩
theorem lw_p5 : lw_okq (⟨"FormDesigner$Parser", "fail", "()Z"⟩, 9) := ⟨⟨by decide +kernel, by decide +kernel⟩, List.mem_of_getElem? (i := 196) (by decide +kernel), List.mem_of_getElem? (i := 524) (by decide +kernel), List.mem_of_getElem? (i := 525) (by decide +kernel)⟩
theorem lw_p6 : lw_okq (⟨"FormDesigner$Parser", "takeInt", "(II)I"⟩, 9) := ⟨⟨by decide +kernel, by decide +kernel⟩, List.mem_of_getElem? (i := 196) (by decide +kernel), List.mem_of_getElem? (i := 529) (by decide +kernel), List.mem_of_getElem? (i := 530) (by decide +kernel)⟩
theorem lw_p7 : lw_okq (⟨"FormDesigner$Parser", "groupHead", "(I)I"⟩, 9) := ⟨⟨by decide +kernel, by decide +kernel⟩, List.mem_of_getElem? (i := 196) (by decide +kernel), List.mem_of_getElem? (i := 537) (by decide +kernel), List.mem_of_getElem? (i := 538) (by decide +kernel)⟩
theorem lw_p8 : lw_okq (⟨"FormDesigner$Parser", "takeNewName", "()J"⟩, 9) := ⟨⟨by decide +kernel, by decide +kernel⟩, List.mem_of_getElem? (i := 196) (by decide +kernel), List.mem_of_getElem? (i := 549) (by decide +kernel), List.mem_of_getElem? (i := 550) (by decide +kernel)⟩
theorem lw_p9 : lw_okq (⟨"FormDesigner$Form", "endOf", "(I)I"⟩, 9) := ⟨⟨by decide +kernel, by decide +kernel⟩, List.mem_of_getElem? (i := 34) (by decide +kernel), List.mem_of_getElem? (i := 565) (by decide +kernel), List.mem_of_getElem? (i := 566) (by decide +kernel)⟩
theorem lw_p10 : lw_okq (⟨"FormDesigner$Form", "placeOf", "(I)I"⟩, 9) := ⟨⟨by decide +kernel, by decide +kernel⟩, List.mem_of_getElem? (i := 34) (by decide +kernel), List.mem_of_getElem? (i := 570) (by decide +kernel), List.mem_of_getElem? (i := 571) (by decide +kernel)⟩
theorem lw_p11 : lw_okq (⟨"FormDesigner$Form", "put", "(II)V"⟩, 9) := ⟨⟨by decide +kernel, by decide +kernel⟩, List.mem_of_getElem? (i := 34) (by decide +kernel), List.mem_of_getElem? (i := 578) (by decide +kernel), List.mem_of_getElem? (i := 579) (by decide +kernel)⟩
theorem lw_p12 : lw_okq (⟨"FormDesigner$Parser", "condition", "(ILFormDesigner$Node;)Z"⟩, 9) := ⟨⟨by decide +kernel, by decide +kernel⟩, List.mem_of_getElem? (i := 196) (by decide +kernel), List.mem_of_getElem? (i := 582) (by decide +kernel), List.mem_of_getElem? (i := 583) (by decide +kernel)⟩
theorem lw_p13 : lw_okq (⟨"FormDesigner$Parser", "disjunction", "(I)LFormDesigner$Term;"⟩, 9) := ⟨⟨by decide +kernel, by decide +kernel⟩, List.mem_of_getElem? (i := 196) (by decide +kernel), List.mem_of_getElem? (i := 586) (by decide +kernel), List.mem_of_getElem? (i := 587) (by decide +kernel)⟩
theorem lw_p14 : lw_okq (⟨"FormDesigner$Parser", "conjunction", "(I)LFormDesigner$Term;"⟩, 9) := ⟨⟨by decide +kernel, by decide +kernel⟩, List.mem_of_getElem? (i := 196) (by decide +kernel), List.mem_of_getElem? (i := 590) (by decide +kernel), List.mem_of_getElem? (i := 591) (by decide +kernel)⟩
theorem lw_p15 : lw_okq (⟨"FormDesigner$Parser", "test", "(I)LFormDesigner$Term;"⟩, 9) := ⟨⟨by decide +kernel, by decide +kernel⟩, List.mem_of_getElem? (i := 196) (by decide +kernel), List.mem_of_getElem? (i := 594) (by decide +kernel), List.mem_of_getElem? (i := 595) (by decide +kernel)⟩
def lw_privs_1 : List (MethodName × Nat) := [(⟨"FormDesigner", "putWord", "(I)V"⟩, 13), (⟨"FormDesigner$Tokens", "beginToken", "(II)V"⟩, 11), (⟨"FormDesigner$Tokens", "extend", "(I)V"⟩, 11), (⟨"FormDesigner$Tokens", "kindOf", "(IIJ)I"⟩, 11), (⟨"FormDesigner$Parser", "take", "(I)Z"⟩, 9), (⟨"FormDesigner$Parser", "fail", "()Z"⟩, 9), (⟨"FormDesigner$Parser", "takeInt", "(II)I"⟩, 9), (⟨"FormDesigner$Parser", "groupHead", "(I)I"⟩, 9), (⟨"FormDesigner$Parser", "takeNewName", "()J"⟩, 9), (⟨"FormDesigner$Form", "endOf", "(I)I"⟩, 9), (⟨"FormDesigner$Form", "placeOf", "(I)I"⟩, 9), (⟨"FormDesigner$Form", "put", "(II)V"⟩, 9), (⟨"FormDesigner$Parser", "condition", "(ILFormDesigner$Node;)Z"⟩, 9), (⟨"FormDesigner$Parser", "disjunction", "(I)LFormDesigner$Term;"⟩, 9), (⟨"FormDesigner$Parser", "conjunction", "(I)LFormDesigner$Term;"⟩, 9), (⟨"FormDesigner$Parser", "test", "(I)LFormDesigner$Term;"⟩, 9)]
theorem lw_r1 : ∀ q ∈ lw_privs_1, lw_okq q := List.forall_mem_cons.mpr ⟨lw_p0, List.forall_mem_cons.mpr ⟨lw_p1, List.forall_mem_cons.mpr ⟨lw_p2, List.forall_mem_cons.mpr ⟨lw_p3, List.forall_mem_cons.mpr ⟨lw_p4, List.forall_mem_cons.mpr ⟨lw_p5, List.forall_mem_cons.mpr ⟨lw_p6, List.forall_mem_cons.mpr ⟨lw_p7, List.forall_mem_cons.mpr ⟨lw_p8, List.forall_mem_cons.mpr ⟨lw_p9, List.forall_mem_cons.mpr ⟨lw_p10, List.forall_mem_cons.mpr ⟨lw_p11, List.forall_mem_cons.mpr ⟨lw_p12, List.forall_mem_cons.mpr ⟨lw_p13, List.forall_mem_cons.mpr ⟨lw_p14, List.forall_mem_cons.mpr ⟨lw_p15, fun _ h => absurd h List.not_mem_nil⟩⟩⟩⟩⟩⟩⟩⟩⟩⟩⟩⟩⟩⟩⟩⟩
theorem lw_p16 : lw_okq (⟨"FormDesigner$Parser", "nameTest", "()LFormDesigner$Term;"⟩, 9) := ⟨⟨by decide +kernel, by decide +kernel⟩, List.mem_of_getElem? (i := 196) (by decide +kernel), List.mem_of_getElem? (i := 598) (by decide +kernel), List.mem_of_getElem? (i := 599) (by decide +kernel)⟩
theorem lw_p17 : lw_okq (⟨"FormDesigner$Parser", "negation", "(I)LFormDesigner$Term;"⟩, 9) := ⟨⟨by decide +kernel, by decide +kernel⟩, List.mem_of_getElem? (i := 196) (by decide +kernel), List.mem_of_getElem? (i := 639) (by decide +kernel), List.mem_of_getElem? (i := 640) (by decide +kernel)⟩
theorem lw_p18 : lw_okq (⟨"FormDesigner$Parser", "field", "(I)Z"⟩, 9) := ⟨⟨by decide +kernel, by decide +kernel⟩, List.mem_of_getElem? (i := 196) (by decide +kernel), List.mem_of_getElem? (i := 643) (by decide +kernel), List.mem_of_getElem? (i := 644) (by decide +kernel)⟩
theorem lw_p19 : lw_okq (⟨"FormDesigner$Parser", "takeHighest", "(II)I"⟩, 9) := ⟨⟨by decide +kernel, by decide +kernel⟩, List.mem_of_getElem? (i := 196) (by decide +kernel), List.mem_of_getElem? (i := 647) (by decide +kernel), List.mem_of_getElem? (i := 648) (by decide +kernel)⟩
theorem lw_p20 : lw_okq (⟨"FormDesigner", "endText", "()V"⟩, 13) := ⟨⟨by decide +kernel, by decide +kernel⟩, List.mem_of_getElem? (i := 20) (by decide +kernel), List.mem_of_getElem? (i := 686) (by decide +kernel), List.mem_of_getElem? (i := 687) (by decide +kernel)⟩
theorem lw_p21 : lw_okq (⟨"FormDesigner", "remember", "()V"⟩, 13) := ⟨⟨by decide +kernel, by decide +kernel⟩, List.mem_of_getElem? (i := 20) (by decide +kernel), List.mem_of_getElem? (i := 706) (by decide +kernel), List.mem_of_getElem? (i := 707) (by decide +kernel)⟩
theorem lw_p22 : lw_okq (⟨"FormDesigner$Form", "hold", "(II)V"⟩, 9) := ⟨⟨by decide +kernel, by decide +kernel⟩, List.mem_of_getElem? (i := 34) (by decide +kernel), List.mem_of_getElem? (i := 765) (by decide +kernel), List.mem_of_getElem? (i := 766) (by decide +kernel)⟩
theorem lw_p23 : lw_okq (⟨"FormDesigner$Form", "cut", "(II)V"⟩, 9) := ⟨⟨by decide +kernel, by decide +kernel⟩, List.mem_of_getElem? (i := 34) (by decide +kernel), List.mem_of_getElem? (i := 769) (by decide +kernel), List.mem_of_getElem? (i := 770) (by decide +kernel)⟩
theorem lw_p24 : lw_okq (⟨"FormDesigner$Form", "heldAt", "(I)I"⟩, 9) := ⟨⟨by decide +kernel, by decide +kernel⟩, List.mem_of_getElem? (i := 34) (by decide +kernel), List.mem_of_getElem? (i := 773) (by decide +kernel), List.mem_of_getElem? (i := 774) (by decide +kernel)⟩
theorem lw_p25 : lw_okq (⟨"FormDesigner$Form", "placeFor", "(II)I"⟩, 9) := ⟨⟨by decide +kernel, by decide +kernel⟩, List.mem_of_getElem? (i := 34) (by decide +kernel), List.mem_of_getElem? (i := 800) (by decide +kernel), List.mem_of_getElem? (i := 801) (by decide +kernel)⟩
theorem lw_p26 : lw_okq (⟨"FormDesigner", "formOf", "(LFormDesigner$Sheet;)LFormDesigner$Form;"⟩, 13) := ⟨⟨by decide +kernel, by decide +kernel⟩, List.mem_of_getElem? (i := 20) (by decide +kernel), List.mem_of_getElem? (i := 840) (by decide +kernel), List.mem_of_getElem? (i := 841) (by decide +kernel)⟩
theorem lw_p27 : lw_okq (⟨"FormDesigner", "findRevision", "(I)LFormDesigner$Form;"⟩, 13) := ⟨⟨by decide +kernel, by decide +kernel⟩, List.mem_of_getElem? (i := 20) (by decide +kernel), List.mem_of_getElem? (i := 844) (by decide +kernel), List.mem_of_getElem? (i := 845) (by decide +kernel)⟩
theorem lw_p28 : lw_okq (⟨"FormDesigner$View", "lookAtField", "(LFormDesigner$Form;LFormDesigner$Sheet;I)V"⟩, 3) := ⟨⟨by decide +kernel, by decide +kernel⟩, List.mem_of_getElem? (i := 345) (by decide +kernel), List.mem_of_getElem? (i := 860) (by decide +kernel), List.mem_of_getElem? (i := 861) (by decide +kernel)⟩
theorem lw_p29 : lw_okq (⟨"FormDesigner$View", "isVisible", "(LFormDesigner$Form;I)Z"⟩, 3) := ⟨⟨by decide +kernel, by decide +kernel⟩, List.mem_of_getElem? (i := 345) (by decide +kernel), List.mem_of_getElem? (i := 865) (by decide +kernel), List.mem_of_getElem? (i := 866) (by decide +kernel)⟩
theorem lw_p30 : lw_okq (⟨"FormDesigner$View", "passes", "(LFormDesigner$Term;)Z"⟩, 3) := ⟨⟨by decide +kernel, by decide +kernel⟩, List.mem_of_getElem? (i := 345) (by decide +kernel), List.mem_of_getElem? (i := 873) (by decide +kernel), List.mem_of_getElem? (i := 874) (by decide +kernel)⟩
theorem lw_p31 : lw_okq (⟨"FormDesigner", "lookAt", "(I)Z"⟩, 13) := ⟨⟨by decide +kernel, by decide +kernel⟩, List.mem_of_getElem? (i := 20) (by decide +kernel), List.mem_of_getElem? (i := 980) (by decide +kernel), List.mem_of_getElem? (i := 981) (by decide +kernel)⟩
def lw_privs_2 : List (MethodName × Nat) := [(⟨"FormDesigner$Parser", "nameTest", "()LFormDesigner$Term;"⟩, 9), (⟨"FormDesigner$Parser", "negation", "(I)LFormDesigner$Term;"⟩, 9), (⟨"FormDesigner$Parser", "field", "(I)Z"⟩, 9), (⟨"FormDesigner$Parser", "takeHighest", "(II)I"⟩, 9), (⟨"FormDesigner", "endText", "()V"⟩, 13), (⟨"FormDesigner", "remember", "()V"⟩, 13), (⟨"FormDesigner$Form", "hold", "(II)V"⟩, 9), (⟨"FormDesigner$Form", "cut", "(II)V"⟩, 9), (⟨"FormDesigner$Form", "heldAt", "(I)I"⟩, 9), (⟨"FormDesigner$Form", "placeFor", "(II)I"⟩, 9), (⟨"FormDesigner", "formOf", "(LFormDesigner$Sheet;)LFormDesigner$Form;"⟩, 13), (⟨"FormDesigner", "findRevision", "(I)LFormDesigner$Form;"⟩, 13), (⟨"FormDesigner$View", "lookAtField", "(LFormDesigner$Form;LFormDesigner$Sheet;I)V"⟩, 3), (⟨"FormDesigner$View", "isVisible", "(LFormDesigner$Form;I)Z"⟩, 3), (⟨"FormDesigner$View", "passes", "(LFormDesigner$Term;)Z"⟩, 3), (⟨"FormDesigner", "lookAt", "(I)Z"⟩, 13)]
theorem lw_r2 : ∀ q ∈ lw_privs_2, lw_okq q := List.forall_mem_cons.mpr ⟨lw_p16, List.forall_mem_cons.mpr ⟨lw_p17, List.forall_mem_cons.mpr ⟨lw_p18, List.forall_mem_cons.mpr ⟨lw_p19, List.forall_mem_cons.mpr ⟨lw_p20, List.forall_mem_cons.mpr ⟨lw_p21, List.forall_mem_cons.mpr ⟨lw_p22, List.forall_mem_cons.mpr ⟨lw_p23, List.forall_mem_cons.mpr ⟨lw_p24, List.forall_mem_cons.mpr ⟨lw_p25, List.forall_mem_cons.mpr ⟨lw_p26, List.forall_mem_cons.mpr ⟨lw_p27, List.forall_mem_cons.mpr ⟨lw_p28, List.forall_mem_cons.mpr ⟨lw_p29, List.forall_mem_cons.mpr ⟨lw_p30, List.forall_mem_cons.mpr ⟨lw_p31, fun _ h => absurd h List.not_mem_nil⟩⟩⟩⟩⟩⟩⟩⟩⟩⟩⟩⟩⟩⟩⟩⟩
theorem lw_p32 : lw_okq (⟨"FormDesigner", "arranged", "(ZI)LFormDesigner$Form;"⟩, 13) := ⟨⟨by decide +kernel, by decide +kernel⟩, List.mem_of_getElem? (i := 20) (by decide +kernel), List.mem_of_getElem? (i := 1002) (by decide +kernel), List.mem_of_getElem? (i := 1003) (by decide +kernel)⟩
theorem lw_p33 : lw_okq (⟨"FormDesigner$Layout", "start", "()V"⟩, 6) := ⟨⟨by decide +kernel, by decide +kernel⟩, List.mem_of_getElem? (i := 363) (by decide +kernel), List.mem_of_getElem? (i := 1010) (by decide +kernel), List.mem_of_getElem? (i := 1011) (by decide +kernel)⟩
theorem lw_p34 : lw_okq (⟨"FormDesigner$Layout", "beginRow", "(I)V"⟩, 6) := ⟨⟨by decide +kernel, by decide +kernel⟩, List.mem_of_getElem? (i := 363) (by decide +kernel), List.mem_of_getElem? (i := 1018) (by decide +kernel), List.mem_of_getElem? (i := 1019) (by decide +kernel)⟩
theorem lw_p35 : lw_okq (⟨"FormDesigner$Layout", "arrangeGroup", "(III)V"⟩, 6) := ⟨⟨by decide +kernel, by decide +kernel⟩, List.mem_of_getElem? (i := 363) (by decide +kernel), List.mem_of_getElem? (i := 1022) (by decide +kernel), List.mem_of_getElem? (i := 1023) (by decide +kernel)⟩
theorem lw_p36 : lw_okq (⟨"FormDesigner$Layout", "stand", "(I)V"⟩, 6) := ⟨⟨by decide +kernel, by decide +kernel⟩, List.mem_of_getElem? (i := 363) (by decide +kernel), List.mem_of_getElem? (i := 1026) (by decide +kernel), List.mem_of_getElem? (i := 1027) (by decide +kernel)⟩
theorem lw_p37 : lw_okq (⟨"FormDesigner$Writer", "put", "(I)V"⟩, 4) := ⟨⟨by decide +kernel, by decide +kernel⟩, List.mem_of_getElem? (i := 390) (by decide +kernel), List.mem_of_getElem? (i := 1061) (by decide +kernel), List.mem_of_getElem? (i := 1062) (by decide +kernel)⟩
theorem lw_p38 : lw_okq (⟨"FormDesigner$Writer", "putName", "(J)V"⟩, 4) := ⟨⟨by decide +kernel, by decide +kernel⟩, List.mem_of_getElem? (i := 390) (by decide +kernel), List.mem_of_getElem? (i := 1066) (by decide +kernel), List.mem_of_getElem? (i := 1067) (by decide +kernel)⟩
theorem lw_p39 : lw_okq (⟨"FormDesigner$Writer", "putField", "(LFormDesigner$Node;I)V"⟩, 4) := ⟨⟨by decide +kernel, by decide +kernel⟩, List.mem_of_getElem? (i := 390) (by decide +kernel), List.mem_of_getElem? (i := 1072) (by decide +kernel), List.mem_of_getElem? (i := 1073) (by decide +kernel)⟩
theorem lw_p40 : lw_okq (⟨"FormDesigner$Writer", "putKeyword", "(I)V"⟩, 4) := ⟨⟨by decide +kernel, by decide +kernel⟩, List.mem_of_getElem? (i := 390) (by decide +kernel), List.mem_of_getElem? (i := 1097) (by decide +kernel), List.mem_of_getElem? (i := 1098) (by decide +kernel)⟩
theorem lw_p41 : lw_okq (⟨"FormDesigner$Writer", "putSpace", "()V"⟩, 4) := ⟨⟨by decide +kernel, by decide +kernel⟩, List.mem_of_getElem? (i := 390) (by decide +kernel), List.mem_of_getElem? (i := 1102) (by decide +kernel), List.mem_of_getElem? (i := 1103) (by decide +kernel)⟩
theorem lw_p42 : lw_okq (⟨"FormDesigner$Writer", "putNumber", "(I)V"⟩, 4) := ⟨⟨by decide +kernel, by decide +kernel⟩, List.mem_of_getElem? (i := 390) (by decide +kernel), List.mem_of_getElem? (i := 1108) (by decide +kernel), List.mem_of_getElem? (i := 1109) (by decide +kernel)⟩
theorem lw_p43 : lw_okq (⟨"FormDesigner$Writer", "putMark", "(I)V"⟩, 4) := ⟨⟨by decide +kernel, by decide +kernel⟩, List.mem_of_getElem? (i := 390) (by decide +kernel), List.mem_of_getElem? (i := 1112) (by decide +kernel), List.mem_of_getElem? (i := 1113) (by decide +kernel)⟩
theorem lw_p44 : lw_okq (⟨"FormDesigner$Writer", "closeGroups", "(II)V"⟩, 4) := ⟨⟨by decide +kernel, by decide +kernel⟩, List.mem_of_getElem? (i := 390) (by decide +kernel), List.mem_of_getElem? (i := 1117) (by decide +kernel), List.mem_of_getElem? (i := 1118) (by decide +kernel)⟩
theorem lw_p45 : lw_okq (⟨"FormDesigner$Writer", "putNode", "(LFormDesigner$Form;LFormDesigner$Node;)V"⟩, 4) := ⟨⟨by decide +kernel, by decide +kernel⟩, List.mem_of_getElem? (i := 390) (by decide +kernel), List.mem_of_getElem? (i := 1121) (by decide +kernel), List.mem_of_getElem? (i := 1122) (by decide +kernel)⟩
theorem lw_p46 : lw_okq (⟨"FormDesigner$Writer", "putTest", "(LFormDesigner$Form;LFormDesigner$Term;)V"⟩, 4) := ⟨⟨by decide +kernel, by decide +kernel⟩, List.mem_of_getElem? (i := 390) (by decide +kernel), List.mem_of_getElem? (i := 1128) (by decide +kernel), List.mem_of_getElem? (i := 1129) (by decide +kernel)⟩
theorem lw_p47 : lw_okq (⟨"FormDesigner$Writer", "putSign", "(I)V"⟩, 4) := ⟨⟨by decide +kernel, by decide +kernel⟩, List.mem_of_getElem? (i := 390) (by decide +kernel), List.mem_of_getElem? (i := 1132) (by decide +kernel), List.mem_of_getElem? (i := 1133) (by decide +kernel)⟩
def lw_privs_3 : List (MethodName × Nat) := [(⟨"FormDesigner", "arranged", "(ZI)LFormDesigner$Form;"⟩, 13), (⟨"FormDesigner$Layout", "start", "()V"⟩, 6), (⟨"FormDesigner$Layout", "beginRow", "(I)V"⟩, 6), (⟨"FormDesigner$Layout", "arrangeGroup", "(III)V"⟩, 6), (⟨"FormDesigner$Layout", "stand", "(I)V"⟩, 6), (⟨"FormDesigner$Writer", "put", "(I)V"⟩, 4), (⟨"FormDesigner$Writer", "putName", "(J)V"⟩, 4), (⟨"FormDesigner$Writer", "putField", "(LFormDesigner$Node;I)V"⟩, 4), (⟨"FormDesigner$Writer", "putKeyword", "(I)V"⟩, 4), (⟨"FormDesigner$Writer", "putSpace", "()V"⟩, 4), (⟨"FormDesigner$Writer", "putNumber", "(I)V"⟩, 4), (⟨"FormDesigner$Writer", "putMark", "(I)V"⟩, 4), (⟨"FormDesigner$Writer", "closeGroups", "(II)V"⟩, 4), (⟨"FormDesigner$Writer", "putNode", "(LFormDesigner$Form;LFormDesigner$Node;)V"⟩, 4), (⟨"FormDesigner$Writer", "putTest", "(LFormDesigner$Form;LFormDesigner$Term;)V"⟩, 4), (⟨"FormDesigner$Writer", "putSign", "(I)V"⟩, 4)]
theorem lw_r3 : ∀ q ∈ lw_privs_3, lw_okq q := List.forall_mem_cons.mpr ⟨lw_p32, List.forall_mem_cons.mpr ⟨lw_p33, List.forall_mem_cons.mpr ⟨lw_p34, List.forall_mem_cons.mpr ⟨lw_p35, List.forall_mem_cons.mpr ⟨lw_p36, List.forall_mem_cons.mpr ⟨lw_p37, List.forall_mem_cons.mpr ⟨lw_p38, List.forall_mem_cons.mpr ⟨lw_p39, List.forall_mem_cons.mpr ⟨lw_p40, List.forall_mem_cons.mpr ⟨lw_p41, List.forall_mem_cons.mpr ⟨lw_p42, List.forall_mem_cons.mpr ⟨lw_p43, List.forall_mem_cons.mpr ⟨lw_p44, List.forall_mem_cons.mpr ⟨lw_p45, List.forall_mem_cons.mpr ⟨lw_p46, List.forall_mem_cons.mpr ⟨lw_p47, fun _ h => absurd h List.not_mem_nil⟩⟩⟩⟩⟩⟩⟩⟩⟩⟩⟩⟩⟩⟩⟩⟩
theorem lw_p48 : lw_okq (⟨"FormDesignerModel", "clearForm", "(I)V"⟩, 49) := ⟨⟨by decide +kernel, by decide +kernel⟩, List.mem_of_getElem? (i := 1144) (by decide +kernel), List.mem_of_getElem? (i := 1150) (by decide +kernel), List.mem_of_getElem? (i := 1151) (by decide +kernel)⟩
theorem lw_p49 : lw_okq (⟨"FormDesignerModel", "puts", "(I)V"⟩, 49) := ⟨⟨by decide +kernel, by decide +kernel⟩, List.mem_of_getElem? (i := 1144) (by decide +kernel), List.mem_of_getElem? (i := 1308) (by decide +kernel), List.mem_of_getElem? (i := 1309) (by decide +kernel)⟩
theorem lw_p50 : lw_okq (⟨"FormDesignerModel", "startsText", "()V"⟩, 49) := ⟨⟨by decide +kernel, by decide +kernel⟩, List.mem_of_getElem? (i := 1144) (by decide +kernel), List.mem_of_getElem? (i := 1323) (by decide +kernel), List.mem_of_getElem? (i := 1324) (by decide +kernel)⟩
theorem lw_p51 : lw_okq (⟨"FormDesignerModel", "next", "()V"⟩, 49) := ⟨⟨by decide +kernel, by decide +kernel⟩, List.mem_of_getElem? (i := 1144) (by decide +kernel), List.mem_of_getElem? (i := 1327) (by decide +kernel), List.mem_of_getElem? (i := 1328) (by decide +kernel)⟩
theorem lw_p52 : lw_okq (⟨"FormDesignerModel", "isAt", "(II)Z"⟩, 49) := ⟨⟨by decide +kernel, by decide +kernel⟩, List.mem_of_getElem? (i := 1144) (by decide +kernel), List.mem_of_getElem? (i := 1331) (by decide +kernel), List.mem_of_getElem? (i := 1332) (by decide +kernel)⟩
theorem lw_p53 : lw_okq (⟨"FormDesignerModel", "isWord", "(J)Z"⟩, 49) := ⟨⟨by decide +kernel, by decide +kernel⟩, List.mem_of_getElem? (i := 1144) (by decide +kernel), List.mem_of_getElem? (i := 1353) (by decide +kernel), List.mem_of_getElem? (i := 1354) (by decide +kernel)⟩
theorem lw_p54 : lw_okq (⟨"FormDesignerModel", "takes", "(Z)V"⟩, 49) := ⟨⟨by decide +kernel, by decide +kernel⟩, List.mem_of_getElem? (i := 1144) (by decide +kernel), List.mem_of_getElem? (i := 1357) (by decide +kernel), List.mem_of_getElem? (i := 1358) (by decide +kernel)⟩
theorem lw_p55 : lw_okq (⟨"FormDesignerModel", "number", "(II)I"⟩, 49) := ⟨⟨by decide +kernel, by decide +kernel⟩, List.mem_of_getElem? (i := 1144) (by decide +kernel), List.mem_of_getElem? (i := 1361) (by decide +kernel), List.mem_of_getElem? (i := 1362) (by decide +kernel)⟩
theorem lw_p56 : lw_okq (⟨"FormDesignerModel", "isHere", "(I)Z"⟩, 49) := ⟨⟨by decide +kernel, by decide +kernel⟩, List.mem_of_getElem? (i := 1144) (by decide +kernel), List.mem_of_getElem? (i := 1365) (by decide +kernel), List.mem_of_getElem? (i := 1366) (by decide +kernel)⟩
theorem lw_p57 : lw_okq (⟨"FormDesignerModel", "readNodes", "(I)V"⟩, 49) := ⟨⟨by decide +kernel, by decide +kernel⟩, List.mem_of_getElem? (i := 1144) (by decide +kernel), List.mem_of_getElem? (i := 1369) (by decide +kernel), List.mem_of_getElem? (i := 1370) (by decide +kernel)⟩
theorem lw_p58 : lw_okq (⟨"FormDesignerModel", "behind", "(II)I"⟩, 49) := ⟨⟨by decide +kernel, by decide +kernel⟩, List.mem_of_getElem? (i := 1144) (by decide +kernel), List.mem_of_getElem? (i := 1373) (by decide +kernel), List.mem_of_getElem? (i := 1374) (by decide +kernel)⟩
theorem lw_p59 : lw_okq (⟨"FormDesignerModel", "many", "(I)I"⟩, 49) := ⟨⟨by decide +kernel, by decide +kernel⟩, List.mem_of_getElem? (i := 1144) (by decide +kernel), List.mem_of_getElem? (i := 1377) (by decide +kernel), List.mem_of_getElem? (i := 1378) (by decide +kernel)⟩
theorem lw_p60 : lw_okq (⟨"FormDesignerModel", "placeOf", "(II)I"⟩, 49) := ⟨⟨by decide +kernel, by decide +kernel⟩, List.mem_of_getElem? (i := 1144) (by decide +kernel), List.mem_of_getElem? (i := 1381) (by decide +kernel), List.mem_of_getElem? (i := 1382) (by decide +kernel)⟩
theorem lw_p61 : lw_okq (⟨"FormDesignerModel", "ordered", "(II)I"⟩, 49) := ⟨⟨by decide +kernel, by decide +kernel⟩, List.mem_of_getElem? (i := 1144) (by decide +kernel), List.mem_of_getElem? (i := 1385) (by decide +kernel), List.mem_of_getElem? (i := 1386) (by decide +kernel)⟩
theorem lw_p62 : lw_okq (⟨"FormDesignerModel", "of", "(III)I"⟩, 49) := ⟨⟨by decide +kernel, by decide +kernel⟩, List.mem_of_getElem? (i := 1144) (by decide +kernel), List.mem_of_getElem? (i := 1389) (by decide +kernel), List.mem_of_getElem? (i := 1390) (by decide +kernel)⟩
theorem lw_p63 : lw_okq (⟨"FormDesignerModel", "isIn", "(III)Z"⟩, 49) := ⟨⟨by decide +kernel, by decide +kernel⟩, List.mem_of_getElem? (i := 1144) (by decide +kernel), List.mem_of_getElem? (i := 1393) (by decide +kernel), List.mem_of_getElem? (i := 1394) (by decide +kernel)⟩
def lw_privs_4 : List (MethodName × Nat) := [(⟨"FormDesignerModel", "clearForm", "(I)V"⟩, 49), (⟨"FormDesignerModel", "puts", "(I)V"⟩, 49), (⟨"FormDesignerModel", "startsText", "()V"⟩, 49), (⟨"FormDesignerModel", "next", "()V"⟩, 49), (⟨"FormDesignerModel", "isAt", "(II)Z"⟩, 49), (⟨"FormDesignerModel", "isWord", "(J)Z"⟩, 49), (⟨"FormDesignerModel", "takes", "(Z)V"⟩, 49), (⟨"FormDesignerModel", "number", "(II)I"⟩, 49), (⟨"FormDesignerModel", "isHere", "(I)Z"⟩, 49), (⟨"FormDesignerModel", "readNodes", "(I)V"⟩, 49), (⟨"FormDesignerModel", "behind", "(II)I"⟩, 49), (⟨"FormDesignerModel", "many", "(I)I"⟩, 49), (⟨"FormDesignerModel", "placeOf", "(II)I"⟩, 49), (⟨"FormDesignerModel", "ordered", "(II)I"⟩, 49), (⟨"FormDesignerModel", "of", "(III)I"⟩, 49), (⟨"FormDesignerModel", "isIn", "(III)Z"⟩, 49)]
theorem lw_r4 : ∀ q ∈ lw_privs_4, lw_okq q := List.forall_mem_cons.mpr ⟨lw_p48, List.forall_mem_cons.mpr ⟨lw_p49, List.forall_mem_cons.mpr ⟨lw_p50, List.forall_mem_cons.mpr ⟨lw_p51, List.forall_mem_cons.mpr ⟨lw_p52, List.forall_mem_cons.mpr ⟨lw_p53, List.forall_mem_cons.mpr ⟨lw_p54, List.forall_mem_cons.mpr ⟨lw_p55, List.forall_mem_cons.mpr ⟨lw_p56, List.forall_mem_cons.mpr ⟨lw_p57, List.forall_mem_cons.mpr ⟨lw_p58, List.forall_mem_cons.mpr ⟨lw_p59, List.forall_mem_cons.mpr ⟨lw_p60, List.forall_mem_cons.mpr ⟨lw_p61, List.forall_mem_cons.mpr ⟨lw_p62, List.forall_mem_cons.mpr ⟨lw_p63, fun _ h => absurd h List.not_mem_nil⟩⟩⟩⟩⟩⟩⟩⟩⟩⟩⟩⟩⟩⟩⟩⟩
theorem lw_p64 : lw_okq (⟨"FormDesignerModel", "isFieldHere", "()Z"⟩, 49) := ⟨⟨by decide +kernel, by decide +kernel⟩, List.mem_of_getElem? (i := 1144) (by decide +kernel), List.mem_of_getElem? (i := 1397) (by decide +kernel), List.mem_of_getElem? (i := 1398) (by decide +kernel)⟩
theorem lw_p65 : lw_okq (⟨"FormDesignerModel", "readField", "(I)V"⟩, 49) := ⟨⟨by decide +kernel, by decide +kernel⟩, List.mem_of_getElem? (i := 1144) (by decide +kernel), List.mem_of_getElem? (i := 1401) (by decide +kernel), List.mem_of_getElem? (i := 1402) (by decide +kernel)⟩
theorem lw_p66 : lw_okq (⟨"FormDesignerModel", "begins", "(III)V"⟩, 49) := ⟨⟨by decide +kernel, by decide +kernel⟩, List.mem_of_getElem? (i := 1144) (by decide +kernel), List.mem_of_getElem? (i := 1405) (by decide +kernel), List.mem_of_getElem? (i := 1406) (by decide +kernel)⟩
theorem lw_p67 : lw_okq (⟨"FormDesignerModel", "nodeNamed", "(IJ)I"⟩, 49) := ⟨⟨by decide +kernel, by decide +kernel⟩, List.mem_of_getElem? (i := 1144) (by decide +kernel), List.mem_of_getElem? (i := 1409) (by decide +kernel), List.mem_of_getElem? (i := 1410) (by decide +kernel)⟩
theorem lw_p68 : lw_okq (⟨"FormDesignerModel", "readIf", "(I)V"⟩, 49) := ⟨⟨by decide +kernel, by decide +kernel⟩, List.mem_of_getElem? (i := 1144) (by decide +kernel), List.mem_of_getElem? (i := 1413) (by decide +kernel), List.mem_of_getElem? (i := 1414) (by decide +kernel)⟩
theorem lw_p69 : lw_okq (⟨"FormDesignerModel", "readCondition", "(I)V"⟩, 49) := ⟨⟨by decide +kernel, by decide +kernel⟩, List.mem_of_getElem? (i := 1144) (by decide +kernel), List.mem_of_getElem? (i := 1417) (by decide +kernel), List.mem_of_getElem? (i := 1418) (by decide +kernel)⟩
theorem lw_p70 : lw_okq (⟨"FormDesignerModel", "readTest", "(I)V"⟩, 49) := ⟨⟨by decide +kernel, by decide +kernel⟩, List.mem_of_getElem? (i := 1144) (by decide +kernel), List.mem_of_getElem? (i := 1421) (by decide +kernel), List.mem_of_getElem? (i := 1422) (by decide +kernel)⟩
theorem lw_p71 : lw_okq (⟨"FormDesignerModel", "waitsFor", "(I)V"⟩, 49) := ⟨⟨by decide +kernel, by decide +kernel⟩, List.mem_of_getElem? (i := 1144) (by decide +kernel), List.mem_of_getElem? (i := 1425) (by decide +kernel), List.mem_of_getElem? (i := 1426) (by decide +kernel)⟩
theorem lw_p72 : lw_okq (⟨"FormDesignerModel", "emits", "(I)V"⟩, 49) := ⟨⟨by decide +kernel, by decide +kernel⟩, List.mem_of_getElem? (i := 1144) (by decide +kernel), List.mem_of_getElem? (i := 1432) (by decide +kernel), List.mem_of_getElem? (i := 1433) (by decide +kernel)⟩
theorem lw_p73 : lw_okq (⟨"FormDesignerModel", "settles", "(I)V"⟩, 49) := ⟨⟨by decide +kernel, by decide +kernel⟩, List.mem_of_getElem? (i := 1144) (by decide +kernel), List.mem_of_getElem? (i := 1436) (by decide +kernel), List.mem_of_getElem? (i := 1437) (by decide +kernel)⟩
theorem lw_p74 : lw_okq (⟨"FormDesignerModel", "takes1", "(Z)V"⟩, 49) := ⟨⟨by decide +kernel, by decide +kernel⟩, List.mem_of_getElem? (i := 1144) (by decide +kernel), List.mem_of_getElem? (i := 1443) (by decide +kernel), List.mem_of_getElem? (i := 1444) (by decide +kernel)⟩
theorem lw_p75 : lw_okq (⟨"FormDesignerModel", "depth", "(II)I"⟩, 49) := ⟨⟨by decide +kernel, by decide +kernel⟩, List.mem_of_getElem? (i := 1144) (by decide +kernel), List.mem_of_getElem? (i := 1448) (by decide +kernel), List.mem_of_getElem? (i := 1449) (by decide +kernel)⟩
theorem lw_p76 : lw_okq (⟨"FormDesignerModel", "resolves", "()V"⟩, 49) := ⟨⟨by decide +kernel, by decide +kernel⟩, List.mem_of_getElem? (i := 1144) (by decide +kernel), List.mem_of_getElem? (i := 1452) (by decide +kernel), List.mem_of_getElem? (i := 1453) (by decide +kernel)⟩
theorem lw_p77 : lw_okq (⟨"FormDesignerModel", "isRead", "(I)Z"⟩, 49) := ⟨⟨by decide +kernel, by decide +kernel⟩, List.mem_of_getElem? (i := 1144) (by decide +kernel), List.mem_of_getElem? (i := 1459) (by decide +kernel), List.mem_of_getElem? (i := 1460) (by decide +kernel)⟩
theorem lw_p78 : lw_okq (⟨"FormDesignerModel", "asked", "(II)I"⟩, 49) := ⟨⟨by decide +kernel, by decide +kernel⟩, List.mem_of_getElem? (i := 1144) (by decide +kernel), List.mem_of_getElem? (i := 1463) (by decide +kernel), List.mem_of_getElem? (i := 1464) (by decide +kernel)⟩
theorem lw_p79 : lw_okq (⟨"FormDesignerModel", "needed", "(II)V"⟩, 49) := ⟨⟨by decide +kernel, by decide +kernel⟩, List.mem_of_getElem? (i := 1144) (by decide +kernel), List.mem_of_getElem? (i := 1473) (by decide +kernel), List.mem_of_getElem? (i := 1474) (by decide +kernel)⟩
def lw_privs_5 : List (MethodName × Nat) := [(⟨"FormDesignerModel", "isFieldHere", "()Z"⟩, 49), (⟨"FormDesignerModel", "readField", "(I)V"⟩, 49), (⟨"FormDesignerModel", "begins", "(III)V"⟩, 49), (⟨"FormDesignerModel", "nodeNamed", "(IJ)I"⟩, 49), (⟨"FormDesignerModel", "readIf", "(I)V"⟩, 49), (⟨"FormDesignerModel", "readCondition", "(I)V"⟩, 49), (⟨"FormDesignerModel", "readTest", "(I)V"⟩, 49), (⟨"FormDesignerModel", "waitsFor", "(I)V"⟩, 49), (⟨"FormDesignerModel", "emits", "(I)V"⟩, 49), (⟨"FormDesignerModel", "settles", "(I)V"⟩, 49), (⟨"FormDesignerModel", "takes1", "(Z)V"⟩, 49), (⟨"FormDesignerModel", "depth", "(II)I"⟩, 49), (⟨"FormDesignerModel", "resolves", "()V"⟩, 49), (⟨"FormDesignerModel", "isRead", "(I)Z"⟩, 49), (⟨"FormDesignerModel", "asked", "(II)I"⟩, 49), (⟨"FormDesignerModel", "needed", "(II)V"⟩, 49)]
theorem lw_r5 : ∀ q ∈ lw_privs_5, lw_okq q := List.forall_mem_cons.mpr ⟨lw_p64, List.forall_mem_cons.mpr ⟨lw_p65, List.forall_mem_cons.mpr ⟨lw_p66, List.forall_mem_cons.mpr ⟨lw_p67, List.forall_mem_cons.mpr ⟨lw_p68, List.forall_mem_cons.mpr ⟨lw_p69, List.forall_mem_cons.mpr ⟨lw_p70, List.forall_mem_cons.mpr ⟨lw_p71, List.forall_mem_cons.mpr ⟨lw_p72, List.forall_mem_cons.mpr ⟨lw_p73, List.forall_mem_cons.mpr ⟨lw_p74, List.forall_mem_cons.mpr ⟨lw_p75, List.forall_mem_cons.mpr ⟨lw_p76, List.forall_mem_cons.mpr ⟨lw_p77, List.forall_mem_cons.mpr ⟨lw_p78, List.forall_mem_cons.mpr ⟨lw_p79, fun _ h => absurd h List.not_mem_nil⟩⟩⟩⟩⟩⟩⟩⟩⟩⟩⟩⟩⟩⟩⟩⟩
theorem lw_p80 : lw_okq (⟨"FormDesignerModel", "has", "(II)Z"⟩, 49) := ⟨⟨by decide +kernel, by decide +kernel⟩, List.mem_of_getElem? (i := 1144) (by decide +kernel), List.mem_of_getElem? (i := 1477) (by decide +kernel), List.mem_of_getElem? (i := 1478) (by decide +kernel)⟩
theorem lw_p81 : lw_okq (⟨"FormDesignerModel", "circles", "(II)Z"⟩, 49) := ⟨⟨by decide +kernel, by decide +kernel⟩, List.mem_of_getElem? (i := 1144) (by decide +kernel), List.mem_of_getElem? (i := 1481) (by decide +kernel), List.mem_of_getElem? (i := 1482) (by decide +kernel)⟩
theorem lw_p82 : lw_okq (⟨"FormDesignerModel", "reached", "(I)I"⟩, 49) := ⟨⟨by decide +kernel, by decide +kernel⟩, List.mem_of_getElem? (i := 1144) (by decide +kernel), List.mem_of_getElem? (i := 1485) (by decide +kernel), List.mem_of_getElem? (i := 1486) (by decide +kernel)⟩
theorem lw_p83 : lw_okq (⟨"FormDesignerModel", "fieldsIn", "(I)I"⟩, 49) := ⟨⟨by decide +kernel, by decide +kernel⟩, List.mem_of_getElem? (i := 1144) (by decide +kernel), List.mem_of_getElem? (i := 1489) (by decide +kernel), List.mem_of_getElem? (i := 1490) (by decide +kernel)⟩
theorem lw_p84 : lw_okq (⟨"FormDesignerModel", "takesMade", "()V"⟩, 49) := ⟨⟨by decide +kernel, by decide +kernel⟩, List.mem_of_getElem? (i := 1144) (by decide +kernel), List.mem_of_getElem? (i := 1493) (by decide +kernel), List.mem_of_getElem? (i := 1494) (by decide +kernel)⟩
theorem lw_p85 : lw_okq (⟨"FormDesignerModel", "packs", "(I)V"⟩, 49) := ⟨⟨by decide +kernel, by decide +kernel⟩, List.mem_of_getElem? (i := 1144) (by decide +kernel), List.mem_of_getElem? (i := 1497) (by decide +kernel), List.mem_of_getElem? (i := 1498) (by decide +kernel)⟩
theorem lw_p86 : lw_okq (⟨"FormDesignerModel", "fieldMany", "()I"⟩, 49) := ⟨⟨by decide +kernel, by decide +kernel⟩, List.mem_of_getElem? (i := 1144) (by decide +kernel), List.mem_of_getElem? (i := 1501) (by decide +kernel), List.mem_of_getElem? (i := 1502) (by decide +kernel)⟩
theorem lw_p87 : lw_okq (⟨"FormDesignerModel", "isGroup", "(I)Z"⟩, 49) := ⟨⟨by decide +kernel, by decide +kernel⟩, List.mem_of_getElem? (i := 1144) (by decide +kernel), List.mem_of_getElem? (i := 1509) (by decide +kernel), List.mem_of_getElem? (i := 1510) (by decide +kernel)⟩
theorem lw_p88 : lw_okq (⟨"FormDesignerModel", "isNode", "(I)Z"⟩, 49) := ⟨⟨by decide +kernel, by decide +kernel⟩, List.mem_of_getElem? (i := 1144) (by decide +kernel), List.mem_of_getElem? (i := 1513) (by decide +kernel), List.mem_of_getElem? (i := 1514) (by decide +kernel)⟩
theorem lw_p89 : lw_okq (⟨"FormDesignerModel", "swaps", "()V"⟩, 49) := ⟨⟨by decide +kernel, by decide +kernel⟩, List.mem_of_getElem? (i := 1144) (by decide +kernel), List.mem_of_getElem? (i := 1520) (by decide +kernel), List.mem_of_getElem? (i := 1521) (by decide +kernel)⟩
theorem lw_p90 : lw_okq (⟨"FormDesignerModel", "keeps", "()V"⟩, 49) := ⟨⟨by decide +kernel, by decide +kernel⟩, List.mem_of_getElem? (i := 1144) (by decide +kernel), List.mem_of_getElem? (i := 1524) (by decide +kernel), List.mem_of_getElem? (i := 1525) (by decide +kernel)⟩
theorem lw_p91 : lw_okq (⟨"FormDesignerModel", "tests", "(II)I"⟩, 49) := ⟨⟨by decide +kernel, by decide +kernel⟩, List.mem_of_getElem? (i := 1144) (by decide +kernel), List.mem_of_getElem? (i := 1532) (by decide +kernel), List.mem_of_getElem? (i := 1533) (by decide +kernel)⟩
theorem lw_p92 : lw_okq (⟨"FormDesignerModel", "rest", "(I)I"⟩, 49) := ⟨⟨by decide +kernel, by decide +kernel⟩, List.mem_of_getElem? (i := 1144) (by decide +kernel), List.mem_of_getElem? (i := 1555) (by decide +kernel), List.mem_of_getElem? (i := 1556) (by decide +kernel)⟩
theorem lw_p93 : lw_okq (⟨"FormDesignerModel", "closes", "(II)V"⟩, 49) := ⟨⟨by decide +kernel, by decide +kernel⟩, List.mem_of_getElem? (i := 1144) (by decide +kernel), List.mem_of_getElem? (i := 1559) (by decide +kernel), List.mem_of_getElem? (i := 1560) (by decide +kernel)⟩
theorem lw_p94 : lw_okq (⟨"FormDesignerModel", "sons", "(I)I"⟩, 49) := ⟨⟨by decide +kernel, by decide +kernel⟩, List.mem_of_getElem? (i := 1144) (by decide +kernel), List.mem_of_getElem? (i := 1567) (by decide +kernel), List.mem_of_getElem? (i := 1568) (by decide +kernel)⟩
theorem lw_p95 : lw_okq (⟨"FormDesignerModel", "indexOf", "(I)I"⟩, 49) := ⟨⟨by decide +kernel, by decide +kernel⟩, List.mem_of_getElem? (i := 1144) (by decide +kernel), List.mem_of_getElem? (i := 1571) (by decide +kernel), List.mem_of_getElem? (i := 1572) (by decide +kernel)⟩
def lw_privs_6 : List (MethodName × Nat) := [(⟨"FormDesignerModel", "has", "(II)Z"⟩, 49), (⟨"FormDesignerModel", "circles", "(II)Z"⟩, 49), (⟨"FormDesignerModel", "reached", "(I)I"⟩, 49), (⟨"FormDesignerModel", "fieldsIn", "(I)I"⟩, 49), (⟨"FormDesignerModel", "takesMade", "()V"⟩, 49), (⟨"FormDesignerModel", "packs", "(I)V"⟩, 49), (⟨"FormDesignerModel", "fieldMany", "()I"⟩, 49), (⟨"FormDesignerModel", "isGroup", "(I)Z"⟩, 49), (⟨"FormDesignerModel", "isNode", "(I)Z"⟩, 49), (⟨"FormDesignerModel", "swaps", "()V"⟩, 49), (⟨"FormDesignerModel", "keeps", "()V"⟩, 49), (⟨"FormDesignerModel", "tests", "(II)I"⟩, 49), (⟨"FormDesignerModel", "rest", "(I)I"⟩, 49), (⟨"FormDesignerModel", "closes", "(II)V"⟩, 49), (⟨"FormDesignerModel", "sons", "(I)I"⟩, 49), (⟨"FormDesignerModel", "indexOf", "(I)I"⟩, 49)]
theorem lw_r6 : ∀ q ∈ lw_privs_6, lw_okq q := List.forall_mem_cons.mpr ⟨lw_p80, List.forall_mem_cons.mpr ⟨lw_p81, List.forall_mem_cons.mpr ⟨lw_p82, List.forall_mem_cons.mpr ⟨lw_p83, List.forall_mem_cons.mpr ⟨lw_p84, List.forall_mem_cons.mpr ⟨lw_p85, List.forall_mem_cons.mpr ⟨lw_p86, List.forall_mem_cons.mpr ⟨lw_p87, List.forall_mem_cons.mpr ⟨lw_p88, List.forall_mem_cons.mpr ⟨lw_p89, List.forall_mem_cons.mpr ⟨lw_p90, List.forall_mem_cons.mpr ⟨lw_p91, List.forall_mem_cons.mpr ⟨lw_p92, List.forall_mem_cons.mpr ⟨lw_p93, List.forall_mem_cons.mpr ⟨lw_p94, List.forall_mem_cons.mpr ⟨lw_p95, fun _ h => absurd h List.not_mem_nil⟩⟩⟩⟩⟩⟩⟩⟩⟩⟩⟩⟩⟩⟩⟩⟩
theorem lw_p96 : lw_okq (⟨"FormDesignerModel", "height", "(II)I"⟩, 49) := ⟨⟨by decide +kernel, by decide +kernel⟩, List.mem_of_getElem? (i := 1144) (by decide +kernel), List.mem_of_getElem? (i := 1575) (by decide +kernel), List.mem_of_getElem? (i := 1576) (by decide +kernel)⟩
theorem lw_p97 : lw_okq (⟨"FormDesignerModel", "placeFor", "(II)I"⟩, 49) := ⟨⟨by decide +kernel, by decide +kernel⟩, List.mem_of_getElem? (i := 1144) (by decide +kernel), List.mem_of_getElem? (i := 1582) (by decide +kernel), List.mem_of_getElem? (i := 1583) (by decide +kernel)⟩
theorem lw_p98 : lw_okq (⟨"FormDesignerModel", "isSound", "()Z"⟩, 49) := ⟨⟨by decide +kernel, by decide +kernel⟩, List.mem_of_getElem? (i := 1144) (by decide +kernel), List.mem_of_getElem? (i := 1586) (by decide +kernel), List.mem_of_getElem? (i := 1587) (by decide +kernel)⟩
theorem lw_p99 : lw_okq (⟨"FormDesignerModel", "laysNeeds", "(I)V"⟩, 49) := ⟨⟨by decide +kernel, by decide +kernel⟩, List.mem_of_getElem? (i := 1144) (by decide +kernel), List.mem_of_getElem? (i := 1590) (by decide +kernel), List.mem_of_getElem? (i := 1591) (by decide +kernel)⟩
theorem lw_p100 : lw_okq (⟨"FormDesignerModel", "isDraftField", "(I)Z"⟩, 49) := ⟨⟨by decide +kernel, by decide +kernel⟩, List.mem_of_getElem? (i := 1144) (by decide +kernel), List.mem_of_getElem? (i := 1598) (by decide +kernel), List.mem_of_getElem? (i := 1599) (by decide +kernel)⟩
theorem lw_p101 : lw_okq (⟨"FormDesignerModel", "revisions", "()I"⟩, 49) := ⟨⟨by decide +kernel, by decide +kernel⟩, List.mem_of_getElem? (i := 1144) (by decide +kernel), List.mem_of_getElem? (i := 1606) (by decide +kernel), List.mem_of_getElem? (i := 1607) (by decide +kernel)⟩
theorem lw_p102 : lw_okq (⟨"FormDesignerModel", "sheets", "()I"⟩, 49) := ⟨⟨by decide +kernel, by decide +kernel⟩, List.mem_of_getElem? (i := 1144) (by decide +kernel), List.mem_of_getElem? (i := 1617) (by decide +kernel), List.mem_of_getElem? (i := 1618) (by decide +kernel)⟩
theorem lw_p103 : lw_okq (⟨"FormDesignerModel", "isSheet", "(I)Z"⟩, 49) := ⟨⟨by decide +kernel, by decide +kernel⟩, List.mem_of_getElem? (i := 1144) (by decide +kernel), List.mem_of_getElem? (i := 1626) (by decide +kernel), List.mem_of_getElem? (i := 1627) (by decide +kernel)⟩
theorem lw_p104 : lw_okq (⟨"FormDesignerModel", "formBy", "(I)I"⟩, 49) := ⟨⟨by decide +kernel, by decide +kernel⟩, List.mem_of_getElem? (i := 1144) (by decide +kernel), List.mem_of_getElem? (i := 1630) (by decide +kernel), List.mem_of_getElem? (i := 1631) (by decide +kernel)⟩
theorem lw_p105 : lw_okq (⟨"FormDesignerModel", "revisionBy", "(I)I"⟩, 49) := ⟨⟨by decide +kernel, by decide +kernel⟩, List.mem_of_getElem? (i := 1144) (by decide +kernel), List.mem_of_getElem? (i := 1634) (by decide +kernel), List.mem_of_getElem? (i := 1635) (by decide +kernel)⟩
theorem lw_p106 : lw_okq (⟨"FormDesignerModel", "laysShown", "(II)V"⟩, 49) := ⟨⟨by decide +kernel, by decide +kernel⟩, List.mem_of_getElem? (i := 1144) (by decide +kernel), List.mem_of_getElem? (i := 1638) (by decide +kernel), List.mem_of_getElem? (i := 1639) (by decide +kernel)⟩
theorem lw_p107 : lw_okq (⟨"FormDesignerModel", "areKnown", "(I)Z"⟩, 49) := ⟨⟨by decide +kernel, by decide +kernel⟩, List.mem_of_getElem? (i := 1144) (by decide +kernel), List.mem_of_getElem? (i := 1642) (by decide +kernel), List.mem_of_getElem? (i := 1643) (by decide +kernel)⟩
theorem lw_p108 : lw_okq (⟨"FormDesignerModel", "isMet", "(III)Z"⟩, 49) := ⟨⟨by decide +kernel, by decide +kernel⟩, List.mem_of_getElem? (i := 1144) (by decide +kernel), List.mem_of_getElem? (i := 1646) (by decide +kernel), List.mem_of_getElem? (i := 1647) (by decide +kernel)⟩
theorem lw_p109 : lw_okq (⟨"FormDesignerModel", "holds", "(II)Z"⟩, 49) := ⟨⟨by decide +kernel, by decide +kernel⟩, List.mem_of_getElem? (i := 1144) (by decide +kernel), List.mem_of_getElem? (i := 1650) (by decide +kernel), List.mem_of_getElem? (i := 1651) (by decide +kernel)⟩
theorem lw_p110 : lw_okq (⟨"FormDesignerModel", "answerAt", "(II)I"⟩, 49) := ⟨⟨by decide +kernel, by decide +kernel⟩, List.mem_of_getElem? (i := 1144) (by decide +kernel), List.mem_of_getElem? (i := 1654) (by decide +kernel), List.mem_of_getElem? (i := 1655) (by decide +kernel)⟩
theorem lw_p111 : lw_okq (⟨"FormDesignerModel", "isRevision", "(I)Z"⟩, 49) := ⟨⟨by decide +kernel, by decide +kernel⟩, List.mem_of_getElem? (i := 1144) (by decide +kernel), List.mem_of_getElem? (i := 1709) (by decide +kernel), List.mem_of_getElem? (i := 1710) (by decide +kernel)⟩
def lw_privs_7 : List (MethodName × Nat) := [(⟨"FormDesignerModel", "height", "(II)I"⟩, 49), (⟨"FormDesignerModel", "placeFor", "(II)I"⟩, 49), (⟨"FormDesignerModel", "isSound", "()Z"⟩, 49), (⟨"FormDesignerModel", "laysNeeds", "(I)V"⟩, 49), (⟨"FormDesignerModel", "isDraftField", "(I)Z"⟩, 49), (⟨"FormDesignerModel", "revisions", "()I"⟩, 49), (⟨"FormDesignerModel", "sheets", "()I"⟩, 49), (⟨"FormDesignerModel", "isSheet", "(I)Z"⟩, 49), (⟨"FormDesignerModel", "formBy", "(I)I"⟩, 49), (⟨"FormDesignerModel", "revisionBy", "(I)I"⟩, 49), (⟨"FormDesignerModel", "laysShown", "(II)V"⟩, 49), (⟨"FormDesignerModel", "areKnown", "(I)Z"⟩, 49), (⟨"FormDesignerModel", "isMet", "(III)Z"⟩, 49), (⟨"FormDesignerModel", "holds", "(II)Z"⟩, 49), (⟨"FormDesignerModel", "answerAt", "(II)I"⟩, 49), (⟨"FormDesignerModel", "isRevision", "(I)Z"⟩, 49)]
theorem lw_r7 : ∀ q ∈ lw_privs_7, lw_okq q := List.forall_mem_cons.mpr ⟨lw_p96, List.forall_mem_cons.mpr ⟨lw_p97, List.forall_mem_cons.mpr ⟨lw_p98, List.forall_mem_cons.mpr ⟨lw_p99, List.forall_mem_cons.mpr ⟨lw_p100, List.forall_mem_cons.mpr ⟨lw_p101, List.forall_mem_cons.mpr ⟨lw_p102, List.forall_mem_cons.mpr ⟨lw_p103, List.forall_mem_cons.mpr ⟨lw_p104, List.forall_mem_cons.mpr ⟨lw_p105, List.forall_mem_cons.mpr ⟨lw_p106, List.forall_mem_cons.mpr ⟨lw_p107, List.forall_mem_cons.mpr ⟨lw_p108, List.forall_mem_cons.mpr ⟨lw_p109, List.forall_mem_cons.mpr ⟨lw_p110, List.forall_mem_cons.mpr ⟨lw_p111, fun _ h => absurd h List.not_mem_nil⟩⟩⟩⟩⟩⟩⟩⟩⟩⟩⟩⟩⟩⟩⟩⟩
theorem lw_p112 : lw_okq (⟨"FormDesignerModel", "isLaid", "(ZI)Z"⟩, 49) := ⟨⟨by decide +kernel, by decide +kernel⟩, List.mem_of_getElem? (i := 1144) (by decide +kernel), List.mem_of_getElem? (i := 1750) (by decide +kernel), List.mem_of_getElem? (i := 1751) (by decide +kernel)⟩
theorem lw_p113 : lw_okq (⟨"FormDesignerModel", "formLaid", "(ZI)I"⟩, 49) := ⟨⟨by decide +kernel, by decide +kernel⟩, List.mem_of_getElem? (i := 1144) (by decide +kernel), List.mem_of_getElem? (i := 1754) (by decide +kernel), List.mem_of_getElem? (i := 1755) (by decide +kernel)⟩
theorem lw_p114 : lw_okq (⟨"FormDesignerModel", "laysOut", "(ZI)V"⟩, 49) := ⟨⟨by decide +kernel, by decide +kernel⟩, List.mem_of_getElem? (i := 1144) (by decide +kernel), List.mem_of_getElem? (i := 1758) (by decide +kernel), List.mem_of_getElem? (i := 1759) (by decide +kernel)⟩
theorem lw_p115 : lw_okq (⟨"FormDesignerModel", "rowAt", "(I)V"⟩, 49) := ⟨⟨by decide +kernel, by decide +kernel⟩, List.mem_of_getElem? (i := 1144) (by decide +kernel), List.mem_of_getElem? (i := 1765) (by decide +kernel), List.mem_of_getElem? (i := 1766) (by decide +kernel)⟩
theorem lw_p116 : lw_okq (⟨"FormDesignerModel", "placesField", "(ZIII)V"⟩, 49) := ⟨⟨by decide +kernel, by decide +kernel⟩, List.mem_of_getElem? (i := 1144) (by decide +kernel), List.mem_of_getElem? (i := 1769) (by decide +kernel), List.mem_of_getElem? (i := 1770) (by decide +kernel)⟩
theorem lw_p117 : lw_okq (⟨"FormDesignerModel", "stands", "(I)V"⟩, 49) := ⟨⟨by decide +kernel, by decide +kernel⟩, List.mem_of_getElem? (i := 1144) (by decide +kernel), List.mem_of_getElem? (i := 1773) (by decide +kernel), List.mem_of_getElem? (i := 1774) (by decide +kernel)⟩
theorem lw_p118 : lw_okq (⟨"FormDesignerModel", "saysLayout", "(ZII)V"⟩, 49) := ⟨⟨by decide +kernel, by decide +kernel⟩, List.mem_of_getElem? (i := 1144) (by decide +kernel), List.mem_of_getElem? (i := 1789) (by decide +kernel), List.mem_of_getElem? (i := 1790) (by decide +kernel)⟩
theorem lw_p119 : lw_okq (⟨"FormDesignerModel", "startsOut", "(I)V"⟩, 49) := ⟨⟨by decide +kernel, by decide +kernel⟩, List.mem_of_getElem? (i := 1144) (by decide +kernel), List.mem_of_getElem? (i := 1793) (by decide +kernel), List.mem_of_getElem? (i := 1794) (by decide +kernel)⟩
theorem lw_p120 : lw_okq (⟨"FormDesignerModel", "saysNode", "(ZIII)V"⟩, 49) := ⟨⟨by decide +kernel, by decide +kernel⟩, List.mem_of_getElem? (i := 1144) (by decide +kernel), List.mem_of_getElem? (i := 1798) (by decide +kernel), List.mem_of_getElem? (i := 1799) (by decide +kernel)⟩
theorem lw_p121 : lw_okq (⟨"FormDesignerModel", "says", "(I)V"⟩, 49) := ⟨⟨by decide +kernel, by decide +kernel⟩, List.mem_of_getElem? (i := 1144) (by decide +kernel), List.mem_of_getElem? (i := 1802) (by decide +kernel), List.mem_of_getElem? (i := 1803) (by decide +kernel)⟩
theorem lw_p122 : lw_okq (⟨"FormDesignerModel", "saysWord", "(J)V"⟩, 49) := ⟨⟨by decide +kernel, by decide +kernel⟩, List.mem_of_getElem? (i := 1144) (by decide +kernel), List.mem_of_getElem? (i := 1806) (by decide +kernel), List.mem_of_getElem? (i := 1807) (by decide +kernel)⟩
theorem lw_p123 : lw_okq (⟨"FormDesignerModel", "saysNumber", "(I)V"⟩, 49) := ⟨⟨by decide +kernel, by decide +kernel⟩, List.mem_of_getElem? (i := 1144) (by decide +kernel), List.mem_of_getElem? (i := 1810) (by decide +kernel), List.mem_of_getElem? (i := 1811) (by decide +kernel)⟩
theorem lw_p124 : lw_okq (⟨"FormDesignerModel", "saysSetup", "(I)V"⟩, 49) := ⟨⟨by decide +kernel, by decide +kernel⟩, List.mem_of_getElem? (i := 1144) (by decide +kernel), List.mem_of_getElem? (i := 1822) (by decide +kernel), List.mem_of_getElem? (i := 1823) (by decide +kernel)⟩
theorem lw_p125 : lw_okq (⟨"FormDesignerModel", "saysBoth", "(JI)V"⟩, 49) := ⟨⟨by decide +kernel, by decide +kernel⟩, List.mem_of_getElem? (i := 1144) (by decide +kernel), List.mem_of_getElem? (i := 1826) (by decide +kernel), List.mem_of_getElem? (i := 1827) (by decide +kernel)⟩
theorem lw_p126 : lw_okq (⟨"FormDesignerModel", "saysField", "(I)V"⟩, 49) := ⟨⟨by decide +kernel, by decide +kernel⟩, List.mem_of_getElem? (i := 1144) (by decide +kernel), List.mem_of_getElem? (i := 1830) (by decide +kernel), List.mem_of_getElem? (i := 1831) (by decide +kernel)⟩
theorem lw_p127 : lw_okq (⟨"FormDesignerModel", "saysIf", "(I)V"⟩, 49) := ⟨⟨by decide +kernel, by decide +kernel⟩, List.mem_of_getElem? (i := 1144) (by decide +kernel), List.mem_of_getElem? (i := 1834) (by decide +kernel), List.mem_of_getElem? (i := 1835) (by decide +kernel)⟩
def lw_privs_8 : List (MethodName × Nat) := [(⟨"FormDesignerModel", "isLaid", "(ZI)Z"⟩, 49), (⟨"FormDesignerModel", "formLaid", "(ZI)I"⟩, 49), (⟨"FormDesignerModel", "laysOut", "(ZI)V"⟩, 49), (⟨"FormDesignerModel", "rowAt", "(I)V"⟩, 49), (⟨"FormDesignerModel", "placesField", "(ZIII)V"⟩, 49), (⟨"FormDesignerModel", "stands", "(I)V"⟩, 49), (⟨"FormDesignerModel", "saysLayout", "(ZII)V"⟩, 49), (⟨"FormDesignerModel", "startsOut", "(I)V"⟩, 49), (⟨"FormDesignerModel", "saysNode", "(ZIII)V"⟩, 49), (⟨"FormDesignerModel", "says", "(I)V"⟩, 49), (⟨"FormDesignerModel", "saysWord", "(J)V"⟩, 49), (⟨"FormDesignerModel", "saysNumber", "(I)V"⟩, 49), (⟨"FormDesignerModel", "saysSetup", "(I)V"⟩, 49), (⟨"FormDesignerModel", "saysBoth", "(JI)V"⟩, 49), (⟨"FormDesignerModel", "saysField", "(I)V"⟩, 49), (⟨"FormDesignerModel", "saysIf", "(I)V"⟩, 49)]
theorem lw_r8 : ∀ q ∈ lw_privs_8, lw_okq q := List.forall_mem_cons.mpr ⟨lw_p112, List.forall_mem_cons.mpr ⟨lw_p113, List.forall_mem_cons.mpr ⟨lw_p114, List.forall_mem_cons.mpr ⟨lw_p115, List.forall_mem_cons.mpr ⟨lw_p116, List.forall_mem_cons.mpr ⟨lw_p117, List.forall_mem_cons.mpr ⟨lw_p118, List.forall_mem_cons.mpr ⟨lw_p119, List.forall_mem_cons.mpr ⟨lw_p120, List.forall_mem_cons.mpr ⟨lw_p121, List.forall_mem_cons.mpr ⟨lw_p122, List.forall_mem_cons.mpr ⟨lw_p123, List.forall_mem_cons.mpr ⟨lw_p124, List.forall_mem_cons.mpr ⟨lw_p125, List.forall_mem_cons.mpr ⟨lw_p126, List.forall_mem_cons.mpr ⟨lw_p127, fun _ h => absurd h List.not_mem_nil⟩⟩⟩⟩⟩⟩⟩⟩⟩⟩⟩⟩⟩⟩⟩⟩
theorem lw_p128 : lw_okq (⟨"FormDesignerModel", "saysCondition", "(I)V"⟩, 49) := ⟨⟨by decide +kernel, by decide +kernel⟩, List.mem_of_getElem? (i := 1144) (by decide +kernel), List.mem_of_getElem? (i := 1838) (by decide +kernel), List.mem_of_getElem? (i := 1839) (by decide +kernel)⟩
theorem lw_p129 : lw_okq (⟨"FormDesignerModel", "plans", "(II)V"⟩, 49) := ⟨⟨by decide +kernel, by decide +kernel⟩, List.mem_of_getElem? (i := 1144) (by decide +kernel), List.mem_of_getElem? (i := 1842) (by decide +kernel), List.mem_of_getElem? (i := 1843) (by decide +kernel)⟩
theorem lw_p130 : lw_okq (⟨"FormDesignerModel", "saysPart", "(III)V"⟩, 49) := ⟨⟨by decide +kernel, by decide +kernel⟩, List.mem_of_getElem? (i := 1144) (by decide +kernel), List.mem_of_getElem? (i := 1846) (by decide +kernel), List.mem_of_getElem? (i := 1847) (by decide +kernel)⟩
theorem lw_p131 : lw_okq (⟨"FormDesignerModel", "saysTest", "(I)V"⟩, 49) := ⟨⟨by decide +kernel, by decide +kernel⟩, List.mem_of_getElem? (i := 1144) (by decide +kernel), List.mem_of_getElem? (i := 1850) (by decide +kernel), List.mem_of_getElem? (i := 1851) (by decide +kernel)⟩
def lw_privs_9 : List (MethodName × Nat) := [(⟨"FormDesignerModel", "saysCondition", "(I)V"⟩, 49), (⟨"FormDesignerModel", "plans", "(II)V"⟩, 49), (⟨"FormDesignerModel", "saysPart", "(III)V"⟩, 49), (⟨"FormDesignerModel", "saysTest", "(I)V"⟩, 49)]
theorem lw_r9 : ∀ q ∈ lw_privs_9, lw_okq q := List.forall_mem_cons.mpr ⟨lw_p128, List.forall_mem_cons.mpr ⟨lw_p129, List.forall_mem_cons.mpr ⟨lw_p130, List.forall_mem_cons.mpr ⟨lw_p131, fun _ h => absurd h List.not_mem_nil⟩⟩⟩⟩
def lw_privs : List (MethodName × Nat) := lw_privs_1 ++ (lw_privs_2 ++ (lw_privs_3 ++ (lw_privs_4 ++ (lw_privs_5 ++ (lw_privs_6 ++ (lw_privs_7 ++ (lw_privs_8 ++ (lw_privs_9))))))))
def lw_tbl : List Cond := k2_sels lw_privs ++ tables_1
theorem lw_privs_ok : ∀ q ∈ lw_privs, lw_okq q := by
  show ∀ q ∈ lw_privs_1 ++ (lw_privs_2 ++ (lw_privs_3 ++ (lw_privs_4 ++ (lw_privs_5 ++ (lw_privs_6 ++ (lw_privs_7 ++ (lw_privs_8 ++ (lw_privs_9)))))))), lw_okq q
  exact List.forall_mem_append.mpr ⟨lw_r1, List.forall_mem_append.mpr ⟨lw_r2, List.forall_mem_append.mpr ⟨lw_r3, List.forall_mem_append.mpr ⟨lw_r4, List.forall_mem_append.mpr ⟨lw_r5, List.forall_mem_append.mpr ⟨lw_r6, List.forall_mem_append.mpr ⟨lw_r7, List.forall_mem_append.mpr ⟨lw_r8, lw_r9⟩⟩⟩⟩⟩⟩⟩⟩
/-- the streams that the claim lets the run draw from -/
abbrev lw_cs : List Choice := [Jvm.Choice.named "NaN.bits"]
theorem lw_bits : nanBits ∈ lw_cs := by first | decide | exact List.mem_cons_self | simp [lw_cs, nanBits]
-- ===== names (printed) =====
def RX0 : String := "FormDesigner$Form"
def TX0 : u_T := fun k => match k with
  | 0 => ("FormDesigner$Form", "screen", "I", false)
  | 1 => ("FormDesigner$Form", "print", "I", false)
  | 2 => ("FormDesigner$Form", "page", "I", false)
  | 3 => ("FormDesigner$Form", "fieldsGiven", "I", false)
  | 4 => ("FormDesigner$Form", "groupsGiven", "I", false)
  | 5 => ("FormDesigner$Form", "count", "I", false)
  | 6 => ("FormDesigner$Form", "order", "[I", true)
  | 7 => ("FormDesigner$Form", "held", "[I", true)
  | _ => ("FormDesigner$Form", "nodes", "[LFormDesigner$Node;", true)
def tyX0 : Nat → FieldType := fun k => match k with
  | 0 => .int
  | 1 => .int
  | 2 => .int
  | 3 => .int
  | 4 => .int
  | 5 => .int
  | 6 => .array .int
  | 7 => .array .int
  | _ => .array (.object "FormDesigner$Node")
theorem nmX0 : ∀ a, a < 9 → ∀ b, b < 9 → a ≠ b → (TX0 a).2.1 ≠ (TX0 b).2.1 := by decide +kernel
theorem tyX0_ok : ∀ k, k < 9 → parseFieldDescriptor (TX0 k).2.2.1 = some (tyX0 k) := by decide +kernel
abbrev cX0_init : ByteArray := prog_2_method_1_code
def yX0_init : MethodName := ⟨RX0, "<init>", "()V"⟩
abbrev cX0_clear : ByteArray := prog_2_method_2_code
def yX0_clear : MethodName := ⟨RX0, "clear", "()V"⟩
abbrev cX0_copyFrom : ByteArray := prog_2_method_3_code
def yX0_copyFrom : MethodName := ⟨RX0, "copyFrom", "(LFormDesigner$Form;)V"⟩
abbrev cX0_find : ByteArray := prog_2_method_4_code
def yX0_find : MethodName := ⟨RX0, "find", "(I)LFormDesigner$Node;"⟩
abbrev cX0_findField : ByteArray := prog_2_method_5_code
def yX0_findField : MethodName := ⟨RX0, "findField", "(I)LFormDesigner$Node;"⟩
abbrev cX0_findGroup : ByteArray := prog_2_method_6_code
def yX0_findGroup : MethodName := ⟨RX0, "findGroup", "(I)LFormDesigner$Node;"⟩
abbrev cX0_takesGroup : ByteArray := prog_2_method_7_code
def yX0_takesGroup : MethodName := ⟨RX0, "takesGroup", "(I)Z"⟩
abbrev cX0_findName : ByteArray := prog_2_method_8_code
def yX0_findName : MethodName := ⟨RX0, "findName", "(J)I"⟩
abbrev cX0_conditions : ByteArray := prog_2_method_9_code
def yX0_conditions : MethodName := ⟨RX0, "conditions", "()I"⟩
abbrev cX0_at : ByteArray := prog_2_method_10_code
def yX0_at : MethodName := ⟨RX0, "at", "(I)I"⟩
abbrev cX0_put : ByteArray := prog_2_method_11_code
def yX0_put : MethodName := ⟨RX0, "put", "(II)V"⟩
abbrev cX0_placeOf : ByteArray := prog_2_method_12_code
def yX0_placeOf : MethodName := ⟨RX0, "placeOf", "(I)I"⟩
abbrev cX0_levelOf : ByteArray := prog_2_method_13_code
def yX0_levelOf : MethodName := ⟨RX0, "levelOf", "(I)I"⟩
abbrev cX0_isAround : ByteArray := prog_2_method_14_code
def yX0_isAround : MethodName := ⟨RX0, "isAround", "(II)Z"⟩
abbrev cX0_endOf : ByteArray := prog_2_method_15_code
def yX0_endOf : MethodName := ⟨RX0, "endOf", "(I)I"⟩
abbrev cX0_listSize : ByteArray := prog_2_method_16_code
def yX0_listSize : MethodName := ⟨RX0, "listSize", "(I)I"⟩
abbrev cX0_indexOf : ByteArray := prog_2_method_17_code
def yX0_indexOf : MethodName := ⟨RX0, "indexOf", "(I)I"⟩
abbrev cX0_placeFor : ByteArray := prog_2_method_18_code
def yX0_placeFor : MethodName := ⟨RX0, "placeFor", "(II)I"⟩
abbrev cX0_fieldsOf : ByteArray := prog_2_method_19_code
def yX0_fieldsOf : MethodName := ⟨RX0, "fieldsOf", "(I)I"⟩
abbrev cX0_add : ByteArray := prog_2_method_20_code
def yX0_add : MethodName := ⟨RX0, "add", "(II)LFormDesigner$Node;"⟩
abbrev cX0_takeAway : ByteArray := prog_2_method_21_code
def yX0_takeAway : MethodName := ⟨RX0, "takeAway", "(I)V"⟩
abbrev cX0_transfer : ByteArray := prog_2_method_22_code
def yX0_transfer : MethodName := ⟨RX0, "transfer", "(III)V"⟩
abbrev cX0_hold : ByteArray := prog_2_method_23_code
def yX0_hold : MethodName := ⟨RX0, "hold", "(II)V"⟩
abbrev cX0_heldAt : ByteArray := prog_2_method_24_code
def yX0_heldAt : MethodName := ⟨RX0, "heldAt", "(I)I"⟩
abbrev cX0_cut : ByteArray := prog_2_method_25_code
def yX0_cut : MethodName := ⟨RX0, "cut", "(II)V"⟩
abbrev cX0_isTooDeep : ByteArray := prog_2_method_26_code
def yX0_isTooDeep : MethodName := ⟨RX0, "isTooDeep", "()Z"⟩
abbrev cX0_needs : ByteArray := prog_2_method_27_code
def yX0_needs : MethodName := ⟨RX0, "needs", "(I)I"⟩
abbrev cX0_allNeeds : ByteArray := prog_2_method_28_code
def yX0_allNeeds : MethodName := ⟨RX0, "allNeeds", "(I)I"⟩
abbrev cX0_refuses : ByteArray := prog_2_method_29_code
def yX0_refuses : MethodName := ⟨RX0, "refuses", "(II)Z"⟩
abbrev cX0_isCircular : ByteArray := prog_2_method_30_code
def yX0_isCircular : MethodName := ⟨RX0, "isCircular", "()Z"⟩
abbrev cX0_isNeededOutside : ByteArray := prog_2_method_31_code
def yX0_isNeededOutside : MethodName := ⟨RX0, "isNeededOutside", "(II)Z"⟩
abbrev cX0_nextField : ByteArray := prog_2_method_32_code
def yX0_nextField : MethodName := ⟨RX0, "nextField", "(I)I"⟩
def RX1 : String := "FormDesigner$Layout"
def TX1 : u_T := fun k => match k with
  | 0 => ("FormDesigner$Layout", "rowCount", "I", false)
  | 1 => ("FormDesigner$Layout", "row", "I", false)
  | 2 => ("FormDesigner$Layout", "column", "I", false)
  | 3 => ("FormDesigner$Layout", "taken", "Z", false)
  | 4 => ("FormDesigner$Layout", "nodeRows", "[I", true)
  | _ => ("FormDesigner$Layout", "nodeColumns", "[I", true)
def tyX1 : Nat → FieldType := fun k => match k with
  | 0 => .int
  | 1 => .int
  | 2 => .int
  | 3 => .boolean
  | 4 => .array .int
  | _ => .array .int
theorem nmX1 : ∀ a, a < 6 → ∀ b, b < 6 → a ≠ b → (TX1 a).2.1 ≠ (TX1 b).2.1 := by decide +kernel
theorem tyX1_ok : ∀ k, k < 6 → parseFieldDescriptor (TX1 k).2.2.1 = some (tyX1 k) := by decide +kernel
abbrev cX1_init : ByteArray := prog_3_method_1_code
def yX1_init : MethodName := ⟨RX1, "<init>", "()V"⟩
abbrev cX1_arrange : ByteArray := prog_3_method_2_code
def yX1_arrange : MethodName := ⟨RX1, "arrange", "(LFormDesigner$Form;LFormDesigner$View;)V"⟩
abbrev cX1_rowOf : ByteArray := prog_3_method_3_code
def yX1_rowOf : MethodName := ⟨RX1, "rowOf", "(I)I"⟩
abbrev cX1_columnOf : ByteArray := prog_3_method_4_code
def yX1_columnOf : MethodName := ⟨RX1, "columnOf", "(I)I"⟩
abbrev cX1_start : ByteArray := prog_3_method_5_code
def yX1_start : MethodName := ⟨RX1, "start", "()V"⟩
abbrev cX1_arrangeGroup : ByteArray := prog_3_method_6_code
def yX1_arrangeGroup : MethodName := ⟨RX1, "arrangeGroup", "(III)V"⟩
abbrev cX1_beginRow : ByteArray := prog_3_method_7_code
def yX1_beginRow : MethodName := ⟨RX1, "beginRow", "(I)V"⟩
abbrev cX1_stand : ByteArray := prog_3_method_8_code
def yX1_stand : MethodName := ⟨RX1, "stand", "(I)V"⟩
def RX2 : String := "FormDesigner$Node"
def TX2 : u_T := fun k => match k with
  | 0 => ("FormDesigner$Node", "present", "Z", false)
  | 1 => ("FormDesigner$Node", "name", "J", false)
  | 2 => ("FormDesigner$Node", "kind", "I", false)
  | 3 => ("FormDesigner$Node", "low", "I", false)
  | 4 => ("FormDesigner$Node", "high", "I", false)
  | 5 => ("FormDesigner$Node", "width", "I", false)
  | 6 => ("FormDesigner$Node", "group", "I", false)
  | 7 => ("FormDesigner$Node", "condition", "LFormDesigner$Term;", false)
  | 8 => ("FormDesigner$Node", "tests", "I", false)
  | _ => ("FormDesigner$Node", "refers", "I", false)
def tyX2 : Nat → FieldType := fun k => match k with
  | 0 => .boolean
  | 1 => .long
  | 2 => .int
  | 3 => .int
  | 4 => .int
  | 5 => .int
  | 6 => .int
  | 7 => .object "FormDesigner$Term"
  | 8 => .int
  | _ => .int
theorem nmX2 : ∀ a, a < 10 → ∀ b, b < 10 → a ≠ b → (TX2 a).2.1 ≠ (TX2 b).2.1 := by decide +kernel
theorem tyX2_ok : ∀ k, k < 10 → parseFieldDescriptor (TX2 k).2.2.1 = some (tyX2 k) := by decide +kernel
abbrev cX2_init : ByteArray := prog_4_method_1_code
def yX2_init : MethodName := ⟨RX2, "<init>", "()V"⟩
abbrev cX2_clear : ByteArray := prog_4_method_2_code
def yX2_clear : MethodName := ⟨RX2, "clear", "()V"⟩
abbrev cX2_copyFrom : ByteArray := prog_4_method_3_code
def yX2_copyFrom : MethodName := ⟨RX2, "copyFrom", "(LFormDesigner$Node;)V"⟩
abbrev cX2_allows : ByteArray := prog_4_method_4_code
def yX2_allows : MethodName := ⟨RX2, "allows", "(I)Z"⟩
def RX3 : String := "FormDesigner$Parser"
def TX3 : u_T := fun k => match k with
  | 0 => ("FormDesigner$Parser", "error", "I", false)
  | 1 => ("FormDesigner$Parser", "form", "LFormDesigner$Form;", true)
  | 2 => ("FormDesigner$Parser", "tokens", "LFormDesigner$Tokens;", true)
  | 3 => ("FormDesigner$Parser", "owner", "I", false)
  | 4 => ("FormDesigner$Parser", "tests", "I", false)
  | 5 => ("FormDesigner$Parser", "testTerms", "[LFormDesigner$Term;", true)
  | 6 => ("FormDesigner$Parser", "testNames", "[J", true)
  | 7 => ("FormDesigner$Parser", "testStarts", "[I", true)
  | _ => ("FormDesigner$Parser", "testOwners", "[I", true)
def tyX3 : Nat → FieldType := fun k => match k with
  | 0 => .int
  | 1 => .object "FormDesigner$Form"
  | 2 => .object "FormDesigner$Tokens"
  | 3 => .int
  | 4 => .int
  | 5 => .array (.object "FormDesigner$Term")
  | 6 => .array .long
  | 7 => .array .int
  | _ => .array .int
theorem nmX3 : ∀ a, a < 9 → ∀ b, b < 9 → a ≠ b → (TX3 a).2.1 ≠ (TX3 b).2.1 := by decide +kernel
theorem tyX3_ok : ∀ k, k < 9 → parseFieldDescriptor (TX3 k).2.2.1 = some (tyX3 k) := by decide +kernel
abbrev cX3_init : ByteArray := prog_5_method_1_code
def yX3_init : MethodName := ⟨RX3, "<init>", "()V"⟩
abbrev cX3_isKeyword : ByteArray := prog_5_method_2_code
def yX3_isKeyword : MethodName := ⟨RX3, "isKeyword", "(J)Z"⟩
abbrev cX3_start : ByteArray := prog_5_method_3_code
def yX3_start : MethodName := ⟨RX3, "start", "([BI)V"⟩
abbrev cX3_readHead : ByteArray := prog_5_method_4_code
def yX3_readHead : MethodName := ⟨RX3, "readHead", "()Z"⟩
abbrev cX3_readNodes : ByteArray := prog_5_method_5_code
def yX3_readNodes : MethodName := ⟨RX3, "readNodes", "(I)Z"⟩
abbrev cX3_readCondition : ByteArray := prog_5_method_6_code
def yX3_readCondition : MethodName := ⟨RX3, "readCondition", "(ILFormDesigner$Node;)Z"⟩
abbrev cX3_settle : ByteArray := prog_5_method_7_code
def yX3_settle : MethodName := ⟨RX3, "settle", "()Z"⟩
abbrev cX3_fail : ByteArray := prog_5_method_8_code
def yX3_fail : MethodName := ⟨RX3, "fail", "()Z"⟩
abbrev cX3_take : ByteArray := prog_5_method_9_code
def yX3_take : MethodName := ⟨RX3, "take", "(I)Z"⟩
abbrev cX3_takeInt : ByteArray := prog_5_method_10_code
def yX3_takeInt : MethodName := ⟨RX3, "takeInt", "(II)I"⟩
abbrev cX3_takeNewName : ByteArray := prog_5_method_11_code
def yX3_takeNewName : MethodName := ⟨RX3, "takeNewName", "()J"⟩
abbrev cX3_groupHead : ByteArray := prog_5_method_12_code
def yX3_groupHead : MethodName := ⟨RX3, "groupHead", "(I)I"⟩
abbrev cX3_field : ByteArray := prog_5_method_13_code
def yX3_field : MethodName := ⟨RX3, "field", "(I)Z"⟩
abbrev cX3_takeHighest : ByteArray := prog_5_method_14_code
def yX3_takeHighest : MethodName := ⟨RX3, "takeHighest", "(II)I"⟩
abbrev cX3_condition : ByteArray := prog_5_method_15_code
def yX3_condition : MethodName := ⟨RX3, "condition", "(ILFormDesigner$Node;)Z"⟩
abbrev cX3_disjunction : ByteArray := prog_5_method_16_code
def yX3_disjunction : MethodName := ⟨RX3, "disjunction", "(I)LFormDesigner$Term;"⟩
abbrev cX3_conjunction : ByteArray := prog_5_method_17_code
def yX3_conjunction : MethodName := ⟨RX3, "conjunction", "(I)LFormDesigner$Term;"⟩
abbrev cX3_test : ByteArray := prog_5_method_18_code
def yX3_test : MethodName := ⟨RX3, "test", "(I)LFormDesigner$Term;"⟩
abbrev cX3_negation : ByteArray := prog_5_method_19_code
def yX3_negation : MethodName := ⟨RX3, "negation", "(I)LFormDesigner$Term;"⟩
abbrev cX3_nameTest : ByteArray := prog_5_method_20_code
def yX3_nameTest : MethodName := ⟨RX3, "nameTest", "()LFormDesigner$Term;"⟩
def RX4 : String := "FormDesigner$Sheet"
def TX4 : u_T := fun k => match k with
  | 0 => ("FormDesigner$Sheet", "revision", "I", false)
  | _ => ("FormDesigner$Sheet", "values", "[I", true)
def tyX4 : Nat → FieldType := fun k => match k with
  | 0 => .int
  | _ => .array .int
theorem nmX4 : ∀ a, a < 2 → ∀ b, b < 2 → a ≠ b → (TX4 a).2.1 ≠ (TX4 b).2.1 := by decide +kernel
theorem tyX4_ok : ∀ k, k < 2 → parseFieldDescriptor (TX4 k).2.2.1 = some (tyX4 k) := by decide +kernel
abbrev cX4_init : ByteArray := prog_6_method_1_code
def yX4_init : MethodName := ⟨RX4, "<init>", "()V"⟩
abbrev cX4_clear : ByteArray := prog_6_method_2_code
def yX4_clear : MethodName := ⟨RX4, "clear", "(I)V"⟩
abbrev cX4_copyFrom : ByteArray := prog_6_method_3_code
def yX4_copyFrom : MethodName := ⟨RX4, "copyFrom", "(LFormDesigner$Sheet;)V"⟩
abbrev cX4_given : ByteArray := prog_6_method_4_code
def yX4_given : MethodName := ⟨RX4, "given", "(I)I"⟩
abbrev cX4_give : ByteArray := prog_6_method_5_code
def yX4_give : MethodName := ⟨RX4, "give", "(II)V"⟩
def RX5 : String := "FormDesigner$State"
def TX5 : u_T := fun k => match k with
  | 0 => ("FormDesigner$State", "draft", "LFormDesigner$Form;", true)
  | 1 => ("FormDesigner$State", "revisionCount", "I", false)
  | 2 => ("FormDesigner$State", "sheetCount", "I", false)
  | _ => ("FormDesigner$State", "sheets", "[LFormDesigner$Sheet;", true)
def tyX5 : Nat → FieldType := fun k => match k with
  | 0 => .object "FormDesigner$Form"
  | 1 => .int
  | 2 => .int
  | _ => .array (.object "FormDesigner$Sheet")
theorem nmX5 : ∀ a, a < 4 → ∀ b, b < 4 → a ≠ b → (TX5 a).2.1 ≠ (TX5 b).2.1 := by decide +kernel
theorem tyX5_ok : ∀ k, k < 4 → parseFieldDescriptor (TX5 k).2.2.1 = some (tyX5 k) := by decide +kernel
abbrev cX5_init : ByteArray := prog_7_method_1_code
def yX5_init : MethodName := ⟨RX5, "<init>", "()V"⟩
abbrev cX5_copyFrom : ByteArray := prog_7_method_2_code
def yX5_copyFrom : MethodName := ⟨RX5, "copyFrom", "(LFormDesigner$State;)V"⟩
abbrev cX5_findSheet : ByteArray := prog_7_method_3_code
def yX5_findSheet : MethodName := ⟨RX5, "findSheet", "(I)LFormDesigner$Sheet;"⟩
def RX6 : String := "FormDesigner$Term"
def TX6 : u_T := fun k => match k with
  | 0 => ("FormDesigner$Term", "kind", "I", true)
  | 1 => ("FormDesigner$Term", "first", "LFormDesigner$Term;", false)
  | 2 => ("FormDesigner$Term", "next", "LFormDesigner$Term;", false)
  | 3 => ("FormDesigner$Term", "field", "I", false)
  | 4 => ("FormDesigner$Term", "sign", "I", false)
  | _ => ("FormDesigner$Term", "number", "I", false)
def tyX6 : Nat → FieldType := fun k => match k with
  | 0 => .int
  | 1 => .object "FormDesigner$Term"
  | 2 => .object "FormDesigner$Term"
  | 3 => .int
  | 4 => .int
  | _ => .int
theorem nmX6 : ∀ a, a < 6 → ∀ b, b < 6 → a ≠ b → (TX6 a).2.1 ≠ (TX6 b).2.1 := by decide +kernel
theorem tyX6_ok : ∀ k, k < 6 → parseFieldDescriptor (TX6 k).2.2.1 = some (tyX6 k) := by decide +kernel
abbrev cX6_init : ByteArray := prog_8_method_1_code
def yX6_init : MethodName := ⟨RX6, "<init>", "(I)V"⟩
def RX7 : String := "FormDesigner$Tokens"
def TX7 : u_T := fun k => match k with
  | 0 => ("FormDesigner$Tokens", "kind", "I", false)
  | 1 => ("FormDesigner$Tokens", "start", "I", false)
  | 2 => ("FormDesigner$Tokens", "content", "J", false)
  | 3 => ("FormDesigner$Tokens", "at", "I", false)
  | 4 => ("FormDesigner$Tokens", "count", "I", false)
  | 5 => ("FormDesigner$Tokens", "length", "I", false)
  | 6 => ("FormDesigner$Tokens", "kinds", "[I", true)
  | 7 => ("FormDesigner$Tokens", "starts", "[I", true)
  | 8 => ("FormDesigner$Tokens", "sizes", "[I", true)
  | 9 => ("FormDesigner$Tokens", "values", "[J", true)
  | _ => ("FormDesigner$Tokens", "keywords", "[J", true)
def tyX7 : Nat → FieldType := fun k => match k with
  | 0 => .int
  | 1 => .int
  | 2 => .long
  | 3 => .int
  | 4 => .int
  | 5 => .int
  | 6 => .array .int
  | 7 => .array .int
  | 8 => .array .int
  | 9 => .array .long
  | _ => .array .long
theorem nmX7 : ∀ a, a < 11 → ∀ b, b < 11 → a ≠ b → (TX7 a).2.1 ≠ (TX7 b).2.1 := by decide +kernel
theorem tyX7_ok : ∀ k, k < 11 → parseFieldDescriptor (TX7 k).2.2.1 = some (tyX7 k) := by decide +kernel
abbrev cX7_init : ByteArray := prog_9_method_1_code
def yX7_init : MethodName := ⟨RX7, "<init>", "()V"⟩
abbrev cX7_read : ByteArray := prog_9_method_2_code
def yX7_read : MethodName := ⟨RX7, "read", "([BI)V"⟩
abbrev cX7_step : ByteArray := prog_9_method_3_code
def yX7_step : MethodName := ⟨RX7, "step", "()V"⟩
abbrev cX7_wordOf : ByteArray := prog_9_method_4_code
def yX7_wordOf : MethodName := ⟨RX7, "wordOf", "(J)I"⟩
abbrev cX7_beginToken : ByteArray := prog_9_method_5_code
def yX7_beginToken : MethodName := ⟨RX7, "beginToken", "(II)V"⟩
abbrev cX7_extend : ByteArray := prog_9_method_6_code
def yX7_extend : MethodName := ⟨RX7, "extend", "(I)V"⟩
abbrev cX7_kindOf : ByteArray := prog_9_method_7_code
def yX7_kindOf : MethodName := ⟨RX7, "kindOf", "(IIJ)I"⟩
abbrev cX7_sortOf : ByteArray := prog_9_method_8_code
def yX7_sortOf : MethodName := ⟨RX7, "sortOf", "(I)I"⟩
abbrev cX7_packed : ByteArray := prog_9_method_9_code
def yX7_packed : MethodName := ⟨RX7, "packed", "(Ljava/lang/String;)J"⟩
def RX8 : String := "FormDesigner$View"
def TX8 : u_T := fun k => match k with
  | 0 => ("FormDesigner$View", "shown", "I", false)
  | 1 => ("FormDesigner$View", "answered", "I", false)
  | _ => ("FormDesigner$View", "forces", "[I", true)
def tyX8 : Nat → FieldType := fun k => match k with
  | 0 => .int
  | 1 => .int
  | _ => .array .int
theorem nmX8 : ∀ a, a < 3 → ∀ b, b < 3 → a ≠ b → (TX8 a).2.1 ≠ (TX8 b).2.1 := by decide +kernel
theorem tyX8_ok : ∀ k, k < 3 → parseFieldDescriptor (TX8 k).2.2.1 = some (tyX8 k) := by decide +kernel
abbrev cX8_init : ByteArray := prog_10_method_1_code
def yX8_init : MethodName := ⟨RX8, "<init>", "()V"⟩
abbrev cX8_look : ByteArray := prog_10_method_2_code
def yX8_look : MethodName := ⟨RX8, "look", "(LFormDesigner$Form;LFormDesigner$Sheet;)V"⟩
abbrev cX8_shows : ByteArray := prog_10_method_3_code
def yX8_shows : MethodName := ⟨RX8, "shows", "(I)Z"⟩
abbrev cX8_force : ByteArray := prog_10_method_4_code
def yX8_force : MethodName := ⟨RX8, "force", "(I)I"⟩
abbrev cX8_lookAtField : ByteArray := prog_10_method_5_code
def yX8_lookAtField : MethodName := ⟨RX8, "lookAtField", "(LFormDesigner$Form;LFormDesigner$Sheet;I)V"⟩
abbrev cX8_isVisible : ByteArray := prog_10_method_6_code
def yX8_isVisible : MethodName := ⟨RX8, "isVisible", "(LFormDesigner$Form;I)Z"⟩
abbrev cX8_holds : ByteArray := prog_10_method_7_code
def yX8_holds : MethodName := ⟨RX8, "holds", "(LFormDesigner$View;LFormDesigner$Term;I)Z"⟩
abbrev cX8_passes : ByteArray := prog_10_method_8_code
def yX8_passes : MethodName := ⟨RX8, "passes", "(LFormDesigner$Term;)Z"⟩
def RX9 : String := "FormDesigner$Writer"
def TX9 : u_T := fun k => match k with
  | 0 => ("FormDesigner$Writer", "length", "I", false)
  | 1 => ("FormDesigner$Writer", "found", "I", false)
  | 2 => ("FormDesigner$Writer", "wanted", "I", false)
  | _ => ("FormDesigner$Writer", "spaced", "Z", false)
def tyX9 : Nat → FieldType := fun k => match k with
  | 0 => .int
  | 1 => .int
  | 2 => .int
  | _ => .boolean
theorem nmX9 : ∀ a, a < 4 → ∀ b, b < 4 → a ≠ b → (TX9 a).2.1 ≠ (TX9 b).2.1 := by decide +kernel
theorem tyX9_ok : ∀ k, k < 4 → parseFieldDescriptor (TX9 k).2.2.1 = some (tyX9 k) := by decide +kernel
abbrev cX9_init : ByteArray := prog_11_method_1_code
def yX9_init : MethodName := ⟨RX9, "<init>", "()V"⟩
abbrev cX9_start : ByteArray := prog_11_method_2_code
def yX9_start : MethodName := ⟨RX9, "start", "(I)V"⟩
abbrev cX9_put : ByteArray := prog_11_method_3_code
def yX9_put : MethodName := ⟨RX9, "put", "(I)V"⟩
abbrev cX9_putName : ByteArray := prog_11_method_4_code
def yX9_putName : MethodName := ⟨RX9, "putName", "(J)V"⟩
abbrev cX9_writeLayout : ByteArray := prog_11_method_5_code
def yX9_writeLayout : MethodName := ⟨RX9, "writeLayout", "(LFormDesigner$Form;LFormDesigner$Layout;LFormDesigner$View;)V"⟩
abbrev cX9_putField : ByteArray := prog_11_method_6_code
def yX9_putField : MethodName := ⟨RX9, "putField", "(LFormDesigner$Node;I)V"⟩
abbrev cX9_nameLength : ByteArray := prog_11_method_7_code
def yX9_nameLength : MethodName := ⟨RX9, "nameLength", "(J)I"⟩
abbrev cX9_digits : ByteArray := prog_11_method_8_code
def yX9_digits : MethodName := ⟨RX9, "digits", "(I)I"⟩
abbrev cX9_digit : ByteArray := prog_11_method_9_code
def yX9_digit : MethodName := ⟨RX9, "digit", "(II)I"⟩
abbrev cX9_writeSetup : ByteArray := prog_11_method_10_code
def yX9_writeSetup : MethodName := ⟨RX9, "writeSetup", "(LFormDesigner$Form;)V"⟩
abbrev cX9_closeGroups : ByteArray := prog_11_method_11_code
def yX9_closeGroups : MethodName := ⟨RX9, "closeGroups", "(II)V"⟩
abbrev cX9_putNode : ByteArray := prog_11_method_12_code
def yX9_putNode : MethodName := ⟨RX9, "putNode", "(LFormDesigner$Form;LFormDesigner$Node;)V"⟩
abbrev cX9_putTerm : ByteArray := prog_11_method_13_code
def yX9_putTerm : MethodName := ⟨RX9, "putTerm", "(LFormDesigner$Writer;LFormDesigner$Form;LFormDesigner$Term;I)V"⟩
abbrev cX9_putTest : ByteArray := prog_11_method_14_code
def yX9_putTest : MethodName := ⟨RX9, "putTest", "(LFormDesigner$Form;LFormDesigner$Term;)V"⟩
abbrev cX9_putSpace : ByteArray := prog_11_method_15_code
def yX9_putSpace : MethodName := ⟨RX9, "putSpace", "()V"⟩
abbrev cX9_putKeyword : ByteArray := prog_11_method_16_code
def yX9_putKeyword : MethodName := ⟨RX9, "putKeyword", "(I)V"⟩
abbrev cX9_putNumber : ByteArray := prog_11_method_17_code
def yX9_putNumber : MethodName := ⟨RX9, "putNumber", "(I)V"⟩
abbrev cX9_putSign : ByteArray := prog_11_method_18_code
def yX9_putSign : MethodName := ⟨RX9, "putSign", "(I)V"⟩
abbrev cX9_putMark : ByteArray := prog_11_method_19_code
def yX9_putMark : MethodName := ⟨RX9, "putMark", "(I)V"⟩
def RX10 : String := "FormDesigner"
def TX10 : u_T := fun k => match k with
  | 0 => ("FormDesigner", "tape", "[B", true)
  | 1 => ("FormDesigner", "tapeSize", "I", false)
  | 2 => ("FormDesigner", "errorAt", "I", false)
  | 3 => ("FormDesigner", "state", "LFormDesigner$State;", true)
  | 4 => ("FormDesigner", "revisions", "[LFormDesigner$Form;", true)
  | 5 => ("FormDesigner", "past", "[LFormDesigner$State;", true)
  | 6 => ("FormDesigner", "pastCount", "I", false)
  | 7 => ("FormDesigner", "pastNext", "I", false)
  | 8 => ("FormDesigner", "parser", "LFormDesigner$Parser;", true)
  | 9 => ("FormDesigner", "scratch", "LFormDesigner$Form;", true)
  | 10 => ("FormDesigner", "view", "LFormDesigner$View;", true)
  | 11 => ("FormDesigner", "layout", "LFormDesigner$Layout;", true)
  | _ => ("FormDesigner", "writer", "LFormDesigner$Writer;", true)
def tyX10 : Nat → FieldType := fun k => match k with
  | 0 => .array .byte
  | 1 => .int
  | 2 => .int
  | 3 => .object "FormDesigner$State"
  | 4 => .array (.object "FormDesigner$Form")
  | 5 => .array (.object "FormDesigner$State")
  | 6 => .int
  | 7 => .int
  | 8 => .object "FormDesigner$Parser"
  | 9 => .object "FormDesigner$Form"
  | 10 => .object "FormDesigner$View"
  | 11 => .object "FormDesigner$Layout"
  | _ => .object "FormDesigner$Writer"
theorem nmX10 : ∀ a, a < 13 → ∀ b, b < 13 → a ≠ b → (TX10 a).2.1 ≠ (TX10 b).2.1 := by decide +kernel
theorem tyX10_ok : ∀ k, k < 13 → parseFieldDescriptor (TX10 k).2.2.1 = some (tyX10 k) := by decide +kernel
abbrev cX10_init : ByteArray := prog_1_method_1_code
def yX10_init : MethodName := ⟨RX10, "<init>", "()V"⟩
abbrev cX10_append : ByteArray := prog_1_method_2_code
def yX10_append : MethodName := ⟨RX10, "append", "(IIIII)I"⟩
abbrev cX10_truncate : ByteArray := prog_1_method_3_code
def yX10_truncate : MethodName := ⟨RX10, "truncate", "(I)I"⟩
abbrev cX10_load : ByteArray := prog_1_method_4_code
def yX10_load : MethodName := ⟨RX10, "load", "()I"⟩
abbrev cX10_insert : ByteArray := prog_1_method_5_code
def yX10_insert : MethodName := ⟨RX10, "insert", "(I)I"⟩
abbrev cX10_setCondition : ByteArray := prog_1_method_6_code
def yX10_setCondition : MethodName := ⟨RX10, "setCondition", "(I)I"⟩
abbrev cX10_errorPosition : ByteArray := prog_1_method_7_code
def yX10_errorPosition : MethodName := ⟨RX10, "errorPosition", "()I"⟩
abbrev cX10_rename : ByteArray := prog_1_method_8_code
def yX10_rename : MethodName := ⟨RX10, "rename", "(II)Z"⟩
abbrev cX10_remove : ByteArray := prog_1_method_9_code
def yX10_remove : MethodName := ⟨RX10, "remove", "(I)I"⟩
abbrev cX10_move : ByteArray := prog_1_method_10_code
def yX10_move : MethodName := ⟨RX10, "move", "(III)Z"⟩
abbrev cX10_setKind : ByteArray := prog_1_method_11_code
def yX10_setKind : MethodName := ⟨RX10, "setKind", "(IIII)I"⟩
abbrev cX10_publish : ByteArray := prog_1_method_12_code
def yX10_publish : MethodName := ⟨RX10, "publish", "()I"⟩
abbrev cX10_begin : ByteArray := prog_1_method_13_code
def yX10_begin : MethodName := ⟨RX10, "begin", "()I"⟩
abbrev cX10_answer : ByteArray := prog_1_method_14_code
def yX10_answer : MethodName := ⟨RX10, "answer", "(III)I"⟩
abbrev cX10_advance : ByteArray := prog_1_method_15_code
def yX10_advance : MethodName := ⟨RX10, "advance", "(I)I"⟩
abbrev cX10_undo : ByteArray := prog_1_method_16_code
def yX10_undo : MethodName := ⟨RX10, "undo", "()I"⟩
abbrev cX10_value : ByteArray := prog_1_method_17_code
def yX10_value : MethodName := ⟨RX10, "value", "(I)I"⟩
abbrev cX10_node : ByteArray := prog_1_method_18_code
def yX10_node : MethodName := ⟨RX10, "node", "(II)I"⟩
abbrev cX10_letter : ByteArray := prog_1_method_19_code
def yX10_letter : MethodName := ⟨RX10, "letter", "(II)I"⟩
abbrev cX10_named : ByteArray := prog_1_method_20_code
def yX10_named : MethodName := ⟨RX10, "named", "(I)I"⟩
abbrev cX10_nodeAt : ByteArray := prog_1_method_21_code
def yX10_nodeAt : MethodName := ⟨RX10, "nodeAt", "(I)I"⟩
abbrev cX10_dependsOn : ByteArray := prog_1_method_22_code
def yX10_dependsOn : MethodName := ⟨RX10, "dependsOn", "(I)I"⟩
abbrev cX10_dependents : ByteArray := prog_1_method_23_code
def yX10_dependents : MethodName := ⟨RX10, "dependents", "(I)I"⟩
abbrev cX10_inOrder : ByteArray := prog_1_method_24_code
def yX10_inOrder : MethodName := ⟨RX10, "inOrder", "(I)I"⟩
abbrev cX10_wouldRefuse : ByteArray := prog_1_method_25_code
def yX10_wouldRefuse : MethodName := ⟨RX10, "wouldRefuse", "(II)Z"⟩
abbrev cX10_exists : ByteArray := prog_1_method_26_code
def yX10_exists : MethodName := ⟨RX10, "exists", "(II)Z"⟩
abbrev cX10_revisionOf : ByteArray := prog_1_method_27_code
def yX10_revisionOf : MethodName := ⟨RX10, "revisionOf", "(I)I"⟩
abbrev cX10_answers : ByteArray := prog_1_method_28_code
def yX10_answers : MethodName := ⟨RX10, "answers", "(I)I"⟩
abbrev cX10_isShown : ByteArray := prog_1_method_29_code
def yX10_isShown : MethodName := ⟨RX10, "isShown", "(III)Z"⟩
abbrev cX10_inForce : ByteArray := prog_1_method_30_code
def yX10_inForce : MethodName := ⟨RX10, "inForce", "(III)I"⟩
abbrev cX10_open : ByteArray := prog_1_method_31_code
def yX10_open : MethodName := ⟨RX10, "open", "(I)I"⟩
abbrev cX10_completeness : ByteArray := prog_1_method_32_code
def yX10_completeness : MethodName := ⟨RX10, "completeness", "(I)F"⟩
abbrev cX10_average : ByteArray := prog_1_method_33_code
def yX10_average : MethodName := ⟨RX10, "average", "(I)F"⟩
abbrev cX10_tally : ByteArray := prog_1_method_34_code
def yX10_tally : MethodName := ⟨RX10, "tally", "(II)I"⟩
abbrev cX10_rows : ByteArray := prog_1_method_35_code
def yX10_rows : MethodName := ⟨RX10, "rows", "(ZI)I"⟩
abbrev cX10_place : ByteArray := prog_1_method_36_code
def yX10_place : MethodName := ⟨RX10, "place", "(ZIIZ)I"⟩
abbrev cX10_pages : ByteArray := prog_1_method_37_code
def yX10_pages : MethodName := ⟨RX10, "pages", "(I)I"⟩
abbrev cX10_textLength : ByteArray := prog_1_method_38_code
def yX10_textLength : MethodName := ⟨RX10, "textLength", "(ZI)I"⟩
abbrev cX10_textByte : ByteArray := prog_1_method_39_code
def yX10_textByte : MethodName := ⟨RX10, "textByte", "(ZII)I"⟩
abbrev cX10_setupLength : ByteArray := prog_1_method_40_code
def yX10_setupLength : MethodName := ⟨RX10, "setupLength", "()I"⟩
abbrev cX10_setupByte : ByteArray := prog_1_method_41_code
def yX10_setupByte : MethodName := ⟨RX10, "setupByte", "(I)I"⟩
abbrev cX10_tapeLength : ByteArray := prog_1_method_42_code
def yX10_tapeLength : MethodName := ⟨RX10, "tapeLength", "()I"⟩
abbrev cX10_putWord : ByteArray := prog_1_method_43_code
def yX10_putWord : MethodName := ⟨RX10, "putWord", "(I)V"⟩
abbrev cX10_endText : ByteArray := prog_1_method_44_code
def yX10_endText : MethodName := ⟨RX10, "endText", "()V"⟩
abbrev cX10_remember : ByteArray := prog_1_method_45_code
def yX10_remember : MethodName := ⟨RX10, "remember", "()V"⟩
abbrev cX10_findRevision : ByteArray := prog_1_method_46_code
def yX10_findRevision : MethodName := ⟨RX10, "findRevision", "(I)LFormDesigner$Form;"⟩
abbrev cX10_formOf : ByteArray := prog_1_method_47_code
def yX10_formOf : MethodName := ⟨RX10, "formOf", "(LFormDesigner$Sheet;)LFormDesigner$Form;"⟩
abbrev cX10_lookAt : ByteArray := prog_1_method_48_code
def yX10_lookAt : MethodName := ⟨RX10, "lookAt", "(I)Z"⟩
abbrev cX10_arranged : ByteArray := prog_1_method_49_code
def yX10_arranged : MethodName := ⟨RX10, "arranged", "(ZI)LFormDesigner$Form;"⟩
abbrev cX10_isKind : ByteArray := prog_1_method_50_code
def yX10_isKind : MethodName := ⟨RX10, "isKind", "(III)Z"⟩
abbrev cX10_hasBit : ByteArray := prog_1_method_51_code
def yX10_hasBit : MethodName := ⟨RX10, "hasBit", "(II)Z"⟩
abbrev cX10_nameOf : ByteArray := prog_1_method_52_code
def yX10_nameOf : MethodName := ⟨RX10, "nameOf", "(I)J"⟩
abbrev cX10_letterOf : ByteArray := prog_1_method_53_code
def yX10_letterOf : MethodName := ⟨RX10, "letterOf", "(JI)I"⟩
abbrev cX10_keyword : ByteArray := prog_1_method_54_code
def yX10_keyword : MethodName := ⟨RX10, "keyword", "(I)Ljava/lang/String;"⟩
def RX11 : String := "FormDesignerModel"
def TX11 : u_T := fun k => match k with
  | 0 => ("FormDesignerModel", "tape", "[B", true)
  | 1 => ("FormDesignerModel", "taped", "I", false)
  | 2 => ("FormDesignerModel", "errorAt", "I", false)
  | 3 => ("FormDesignerModel", "sizes", "[I", true)
  | 4 => ("FormDesignerModel", "readSizes", "[I", true)
  | 5 => ("FormDesignerModel", "world", "[J", true)
  | 6 => ("FormDesignerModel", "made", "[J", true)
  | 7 => ("FormDesignerModel", "undone", "[J", true)
  | 8 => ("FormDesignerModel", "undos", "I", false)
  | 9 => ("FormDesignerModel", "pool", "[I", true)
  | 10 => ("FormDesignerModel", "pooled", "I", false)
  | 11 => ("FormDesignerModel", "needs", "[I", true)
  | 12 => ("FormDesignerModel", "at", "I", false)
  | 13 => ("FormDesignerModel", "start", "I", false)
  | 14 => ("FormDesignerModel", "kind", "I", false)
  | 15 => ("FormDesignerModel", "value", "I", false)
  | 16 => ("FormDesignerModel", "word", "J", false)
  | 17 => ("FormDesignerModel", "fine", "Z", false)
  | 18 => ("FormDesignerModel", "saidName", "[J", true)
  | 19 => ("FormDesignerModel", "saidAt", "[I", true)
  | 20 => ("FormDesignerModel", "saidNode", "[I", true)
  | 21 => ("FormDesignerModel", "saidIn", "[I", true)
  | 22 => ("FormDesignerModel", "said", "I", false)
  | 23 => ("FormDesignerModel", "waiting", "[I", true)
  | 24 => ("FormDesignerModel", "waits", "I", false)
  | 25 => ("FormDesignerModel", "nested", "I", false)
  | 26 => ("FormDesignerModel", "parens", "I", false)
  | 27 => ("FormDesignerModel", "place", "I", false)
  | 28 => ("FormDesignerModel", "moved", "[I", true)
  | 29 => ("FormDesignerModel", "known", "[Z", true)
  | 30 => ("FormDesignerModel", "shown", "[Z", true)
  | 31 => ("FormDesignerModel", "forced", "[Z", true)
  | 32 => ("FormDesignerModel", "values", "[Z", true)
  | 33 => ("FormDesignerModel", "before", "[Z", true)
  | 34 => ("FormDesignerModel", "rowOf", "[I", true)
  | 35 => ("FormDesignerModel", "columnOf", "[I", true)
  | 36 => ("FormDesignerModel", "row", "I", false)
  | 37 => ("FormDesignerModel", "column", "I", false)
  | 38 => ("FormDesignerModel", "isTaken", "Z", false)
  | 39 => ("FormDesignerModel", "rowMany", "I", false)
  | 40 => ("FormDesignerModel", "outs", "I", false)
  | 41 => ("FormDesignerModel", "wanted", "I", false)
  | 42 => ("FormDesignerModel", "found", "I", false)
  | 43 => ("FormDesignerModel", "lineAt", "I", false)
  | 44 => ("FormDesignerModel", "cutAt", "I", false)
  | 45 => ("FormDesignerModel", "partFrom", "[I", true)
  | 46 => ("FormDesignerModel", "todo", "[I", true)
  | 47 => ("FormDesignerModel", "within", "[I", true)
  | _ => ("FormDesignerModel", "todos", "I", false)
def tyX11 : Nat → FieldType := fun k => match k with
  | 0 => .array .byte
  | 1 => .int
  | 2 => .int
  | 3 => .array .int
  | 4 => .array .int
  | 5 => .array .long
  | 6 => .array .long
  | 7 => .array .long
  | 8 => .int
  | 9 => .array .int
  | 10 => .int
  | 11 => .array .int
  | 12 => .int
  | 13 => .int
  | 14 => .int
  | 15 => .int
  | 16 => .long
  | 17 => .boolean
  | 18 => .array .long
  | 19 => .array .int
  | 20 => .array .int
  | 21 => .array .int
  | 22 => .int
  | 23 => .array .int
  | 24 => .int
  | 25 => .int
  | 26 => .int
  | 27 => .int
  | 28 => .array .int
  | 29 => .array .boolean
  | 30 => .array .boolean
  | 31 => .array .boolean
  | 32 => .array .boolean
  | 33 => .array .boolean
  | 34 => .array .int
  | 35 => .array .int
  | 36 => .int
  | 37 => .int
  | 38 => .boolean
  | 39 => .int
  | 40 => .int
  | 41 => .int
  | 42 => .int
  | 43 => .int
  | 44 => .int
  | 45 => .array .int
  | 46 => .array .int
  | 47 => .array .int
  | _ => .int
theorem nmX11 : ∀ a, a < 49 → ∀ b, b < 49 → a ≠ b → (TX11 a).2.1 ≠ (TX11 b).2.1 := by decide +kernel
theorem tyX11_ok : ∀ k, k < 49 → parseFieldDescriptor (TX11 k).2.2.1 = some (tyX11 k) := by decide +kernel
abbrev cX11_init : ByteArray := prog_13_method_1_code
def yX11_init : MethodName := ⟨RX11, "<init>", "()V"⟩
abbrev cX11_in : ByteArray := prog_13_method_2_code
def yX11_in : MethodName := ⟨RX11, "in", "(III)Z"⟩
abbrev cX11_most : ByteArray := prog_13_method_3_code
def yX11_most : MethodName := ⟨RX11, "most", "(II)I"⟩
abbrev cX11_clearForm : ByteArray := prog_13_method_4_code
def yX11_clearForm : MethodName := ⟨RX11, "clearForm", "(I)V"⟩
abbrev cX11_of : ByteArray := prog_13_method_5_code
def yX11_of : MethodName := ⟨RX11, "of", "(III)I"⟩
abbrev cX11_formOf : ByteArray := prog_13_method_6_code
def yX11_formOf : MethodName := ⟨RX11, "formOf", "(I)I"⟩
abbrev cX11_has : ByteArray := prog_13_method_7_code
def yX11_has : MethodName := ⟨RX11, "has", "(II)Z"⟩
abbrev cX11_isNode : ByteArray := prog_13_method_8_code
def yX11_isNode : MethodName := ⟨RX11, "isNode", "(I)Z"⟩
abbrev cX11_isField : ByteArray := prog_13_method_9_code
def yX11_isField : MethodName := ⟨RX11, "isField", "(I)Z"⟩
abbrev cX11_isDraftField : ByteArray := prog_13_method_10_code
def yX11_isDraftField : MethodName := ⟨RX11, "isDraftField", "(I)Z"⟩
abbrev cX11_many : ByteArray := prog_13_method_11_code
def yX11_many : MethodName := ⟨RX11, "many", "(I)I"⟩
abbrev cX11_ordered : ByteArray := prog_13_method_12_code
def yX11_ordered : MethodName := ⟨RX11, "ordered", "(II)I"⟩
abbrev cX11_depth : ByteArray := prog_13_method_13_code
def yX11_depth : MethodName := ⟨RX11, "depth", "(II)I"⟩
abbrev cX11_isIn : ByteArray := prog_13_method_14_code
def yX11_isIn : MethodName := ⟨RX11, "isIn", "(III)Z"⟩
abbrev cX11_placeOf : ByteArray := prog_13_method_15_code
def yX11_placeOf : MethodName := ⟨RX11, "placeOf", "(II)I"⟩
abbrev cX11_behind : ByteArray := prog_13_method_16_code
def yX11_behind : MethodName := ⟨RX11, "behind", "(II)I"⟩
abbrev cX11_height : ByteArray := prog_13_method_17_code
def yX11_height : MethodName := ⟨RX11, "height", "(II)I"⟩
abbrev cX11_test : ByteArray := prog_13_method_18_code
def yX11_test : MethodName := ⟨RX11, "test", "(III)I"⟩
abbrev cX11_sortOf : ByteArray := prog_13_method_19_code
def yX11_sortOf : MethodName := ⟨RX11, "sortOf", "(I)I"⟩
abbrev cX11_fieldOf : ByteArray := prog_13_method_20_code
def yX11_fieldOf : MethodName := ⟨RX11, "fieldOf", "(I)I"⟩
abbrev cX11_tests : ByteArray := prog_13_method_21_code
def yX11_tests : MethodName := ⟨RX11, "tests", "(II)I"⟩
abbrev cX11_asked : ByteArray := prog_13_method_22_code
def yX11_asked : MethodName := ⟨RX11, "asked", "(II)I"⟩
abbrev cX11_laysNeeds : ByteArray := prog_13_method_23_code
def yX11_laysNeeds : MethodName := ⟨RX11, "laysNeeds", "(I)V"⟩
abbrev cX11_needed : ByteArray := prog_13_method_24_code
def yX11_needed : MethodName := ⟨RX11, "needed", "(II)V"⟩
abbrev cX11_reached : ByteArray := prog_13_method_25_code
def yX11_reached : MethodName := ⟨RX11, "reached", "(I)I"⟩
abbrev cX11_fieldsIn : ByteArray := prog_13_method_26_code
def yX11_fieldsIn : MethodName := ⟨RX11, "fieldsIn", "(I)I"⟩
abbrev cX11_circles : ByteArray := prog_13_method_27_code
def yX11_circles : MethodName := ⟨RX11, "circles", "(II)Z"⟩
abbrev cX11_isSound : ByteArray := prog_13_method_28_code
def yX11_isSound : MethodName := ⟨RX11, "isSound", "()Z"⟩
abbrev cX11_isAt : ByteArray := prog_13_method_29_code
def yX11_isAt : MethodName := ⟨RX11, "isAt", "(II)Z"⟩
abbrev cX11_isKeyword : ByteArray := prog_13_method_30_code
def yX11_isKeyword : MethodName := ⟨RX11, "isKeyword", "(J)Z"⟩
abbrev cX11_isSign : ByteArray := prog_13_method_31_code
def yX11_isSign : MethodName := ⟨RX11, "isSign", "(I)Z"⟩
abbrev cX11_next : ByteArray := prog_13_method_32_code
def yX11_next : MethodName := ⟨RX11, "next", "()V"⟩
abbrev cX11_takes : ByteArray := prog_13_method_33_code
def yX11_takes : MethodName := ⟨RX11, "takes", "(Z)V"⟩
abbrev cX11_isWord : ByteArray := prog_13_method_34_code
def yX11_isWord : MethodName := ⟨RX11, "isWord", "(J)Z"⟩
abbrev cX11_isHere : ByteArray := prog_13_method_35_code
def yX11_isHere : MethodName := ⟨RX11, "isHere", "(I)Z"⟩
abbrev cX11_number : ByteArray := prog_13_method_36_code
def yX11_number : MethodName := ⟨RX11, "number", "(II)I"⟩
abbrev cX11_emits : ByteArray := prog_13_method_37_code
def yX11_emits : MethodName := ⟨RX11, "emits", "(I)V"⟩
abbrev cX11_settles : ByteArray := prog_13_method_38_code
def yX11_settles : MethodName := ⟨RX11, "settles", "(I)V"⟩
abbrev cX11_rankOf : ByteArray := prog_13_method_39_code
def yX11_rankOf : MethodName := ⟨RX11, "rankOf", "(I)I"⟩
abbrev cX11_waitsFor : ByteArray := prog_13_method_40_code
def yX11_waitsFor : MethodName := ⟨RX11, "waitsFor", "(I)V"⟩
abbrev cX11_readTest : ByteArray := prog_13_method_41_code
def yX11_readTest : MethodName := ⟨RX11, "readTest", "(I)V"⟩
abbrev cX11_readCondition : ByteArray := prog_13_method_42_code
def yX11_readCondition : MethodName := ⟨RX11, "readCondition", "(I)V"⟩
abbrev cX11_takes1 : ByteArray := prog_13_method_43_code
def yX11_takes1 : MethodName := ⟨RX11, "takes1", "(Z)V"⟩
abbrev cX11_nodeNamed : ByteArray := prog_13_method_44_code
def yX11_nodeNamed : MethodName := ⟨RX11, "nodeNamed", "(IJ)I"⟩
abbrev cX11_begins : ByteArray := prog_13_method_45_code
def yX11_begins : MethodName := ⟨RX11, "begins", "(III)V"⟩
abbrev cX11_readField : ByteArray := prog_13_method_46_code
def yX11_readField : MethodName := ⟨RX11, "readField", "(I)V"⟩
abbrev cX11_readIf : ByteArray := prog_13_method_47_code
def yX11_readIf : MethodName := ⟨RX11, "readIf", "(I)V"⟩
abbrev cX11_isFieldHere : ByteArray := prog_13_method_48_code
def yX11_isFieldHere : MethodName := ⟨RX11, "isFieldHere", "()Z"⟩
abbrev cX11_readNodes : ByteArray := prog_13_method_49_code
def yX11_readNodes : MethodName := ⟨RX11, "readNodes", "(I)V"⟩
abbrev cX11_resolves : ByteArray := prog_13_method_50_code
def yX11_resolves : MethodName := ⟨RX11, "resolves", "()V"⟩
abbrev cX11_isRead : ByteArray := prog_13_method_51_code
def yX11_isRead : MethodName := ⟨RX11, "isRead", "(I)Z"⟩
abbrev cX11_startsText : ByteArray := prog_13_method_52_code
def yX11_startsText : MethodName := ⟨RX11, "startsText", "()V"⟩
abbrev cX11_swaps : ByteArray := prog_13_method_53_code
def yX11_swaps : MethodName := ⟨RX11, "swaps", "()V"⟩
abbrev cX11_takesMade : ByteArray := prog_13_method_54_code
def yX11_takesMade : MethodName := ⟨RX11, "takesMade", "()V"⟩
abbrev cX11_puts : ByteArray := prog_13_method_55_code
def yX11_puts : MethodName := ⟨RX11, "puts", "(I)V"⟩
abbrev cX11_append : ByteArray := prog_13_method_56_code
def yX11_append : MethodName := ⟨RX11, "append", "(IIIII)I"⟩
abbrev cX11_truncate : ByteArray := prog_13_method_57_code
def yX11_truncate : MethodName := ⟨RX11, "truncate", "(I)I"⟩
abbrev cX11_load : ByteArray := prog_13_method_58_code
def yX11_load : MethodName := ⟨RX11, "load", "()I"⟩
abbrev cX11_packs : ByteArray := prog_13_method_59_code
def yX11_packs : MethodName := ⟨RX11, "packs", "(I)V"⟩
abbrev cX11_fieldMany : ByteArray := prog_13_method_60_code
def yX11_fieldMany : MethodName := ⟨RX11, "fieldMany", "()I"⟩
abbrev cX11_isGroup : ByteArray := prog_13_method_61_code
def yX11_isGroup : MethodName := ⟨RX11, "isGroup", "(I)Z"⟩
abbrev cX11_insert : ByteArray := prog_13_method_62_code
def yX11_insert : MethodName := ⟨RX11, "insert", "(I)I"⟩
abbrev cX11_setCondition : ByteArray := prog_13_method_63_code
def yX11_setCondition : MethodName := ⟨RX11, "setCondition", "(I)I"⟩
abbrev cX11_errorPosition : ByteArray := prog_13_method_64_code
def yX11_errorPosition : MethodName := ⟨RX11, "errorPosition", "()I"⟩
abbrev cX11_keeps : ByteArray := prog_13_method_65_code
def yX11_keeps : MethodName := ⟨RX11, "keeps", "()V"⟩
abbrev cX11_undo : ByteArray := prog_13_method_66_code
def yX11_undo : MethodName := ⟨RX11, "undo", "()I"⟩
abbrev cX11_nameOf : ByteArray := prog_13_method_67_code
def yX11_nameOf : MethodName := ⟨RX11, "nameOf", "(I)J"⟩
abbrev cX11_rename : ByteArray := prog_13_method_68_code
def yX11_rename : MethodName := ⟨RX11, "rename", "(II)Z"⟩
abbrev cX11_closes : ByteArray := prog_13_method_69_code
def yX11_closes : MethodName := ⟨RX11, "closes", "(II)V"⟩
abbrev cX11_rest : ByteArray := prog_13_method_70_code
def yX11_rest : MethodName := ⟨RX11, "rest", "(I)I"⟩
abbrev cX11_remove : ByteArray := prog_13_method_71_code
def yX11_remove : MethodName := ⟨RX11, "remove", "(I)I"⟩
abbrev cX11_sons : ByteArray := prog_13_method_72_code
def yX11_sons : MethodName := ⟨RX11, "sons", "(I)I"⟩
abbrev cX11_indexOf : ByteArray := prog_13_method_73_code
def yX11_indexOf : MethodName := ⟨RX11, "indexOf", "(I)I"⟩
abbrev cX11_placeFor : ByteArray := prog_13_method_74_code
def yX11_placeFor : MethodName := ⟨RX11, "placeFor", "(II)I"⟩
abbrev cX11_nodeOf : ByteArray := prog_13_method_75_code
def yX11_nodeOf : MethodName := ⟨RX11, "nodeOf", "(I)I"⟩
abbrev cX11_move : ByteArray := prog_13_method_76_code
def yX11_move : MethodName := ⟨RX11, "move", "(III)Z"⟩
abbrev cX11_setKind : ByteArray := prog_13_method_77_code
def yX11_setKind : MethodName := ⟨RX11, "setKind", "(IIII)I"⟩
abbrev cX11_revisions : ByteArray := prog_13_method_78_code
def yX11_revisions : MethodName := ⟨RX11, "revisions", "()I"⟩
abbrev cX11_sheets : ByteArray := prog_13_method_79_code
def yX11_sheets : MethodName := ⟨RX11, "sheets", "()I"⟩
abbrev cX11_isRevision : ByteArray := prog_13_method_80_code
def yX11_isRevision : MethodName := ⟨RX11, "isRevision", "(I)Z"⟩
abbrev cX11_isSheet : ByteArray := prog_13_method_81_code
def yX11_isSheet : MethodName := ⟨RX11, "isSheet", "(I)Z"⟩
abbrev cX11_publish : ByteArray := prog_13_method_82_code
def yX11_publish : MethodName := ⟨RX11, "publish", "()I"⟩
abbrev cX11_begin : ByteArray := prog_13_method_83_code
def yX11_begin : MethodName := ⟨RX11, "begin", "()I"⟩
abbrev cX11_revisionBy : ByteArray := prog_13_method_84_code
def yX11_revisionBy : MethodName := ⟨RX11, "revisionBy", "(I)I"⟩
abbrev cX11_formBy : ByteArray := prog_13_method_85_code
def yX11_formBy : MethodName := ⟨RX11, "formBy", "(I)I"⟩
abbrev cX11_answerAt : ByteArray := prog_13_method_86_code
def yX11_answerAt : MethodName := ⟨RX11, "answerAt", "(II)I"⟩
abbrev cX11_holds : ByteArray := prog_13_method_87_code
def yX11_holds : MethodName := ⟨RX11, "holds", "(II)Z"⟩
abbrev cX11_isMet : ByteArray := prog_13_method_88_code
def yX11_isMet : MethodName := ⟨RX11, "isMet", "(III)Z"⟩
abbrev cX11_areKnown : ByteArray := prog_13_method_89_code
def yX11_areKnown : MethodName := ⟨RX11, "areKnown", "(I)Z"⟩
abbrev cX11_laysShown : ByteArray := prog_13_method_90_code
def yX11_laysShown : MethodName := ⟨RX11, "laysShown", "(II)V"⟩
abbrev cX11_answer : ByteArray := prog_13_method_91_code
def yX11_answer : MethodName := ⟨RX11, "answer", "(III)I"⟩
abbrev cX11_advance : ByteArray := prog_13_method_92_code
def yX11_advance : MethodName := ⟨RX11, "advance", "(I)I"⟩
abbrev cX11_value : ByteArray := prog_13_method_93_code
def yX11_value : MethodName := ⟨RX11, "value", "(I)I"⟩
abbrev cX11_node : ByteArray := prog_13_method_94_code
def yX11_node : MethodName := ⟨RX11, "node", "(II)I"⟩
abbrev cX11_lengthOf : ByteArray := prog_13_method_95_code
def yX11_lengthOf : MethodName := ⟨RX11, "lengthOf", "(J)I"⟩
abbrev cX11_letterOf : ByteArray := prog_13_method_96_code
def yX11_letterOf : MethodName := ⟨RX11, "letterOf", "(JI)I"⟩
abbrev cX11_letter : ByteArray := prog_13_method_97_code
def yX11_letter : MethodName := ⟨RX11, "letter", "(II)I"⟩
abbrev cX11_named : ByteArray := prog_13_method_98_code
def yX11_named : MethodName := ⟨RX11, "named", "(I)I"⟩
abbrev cX11_nodeAt : ByteArray := prog_13_method_99_code
def yX11_nodeAt : MethodName := ⟨RX11, "nodeAt", "(I)I"⟩
abbrev cX11_dependsOn : ByteArray := prog_13_method_100_code
def yX11_dependsOn : MethodName := ⟨RX11, "dependsOn", "(I)I"⟩
abbrev cX11_dependents : ByteArray := prog_13_method_101_code
def yX11_dependents : MethodName := ⟨RX11, "dependents", "(I)I"⟩
abbrev cX11_inOrder : ByteArray := prog_13_method_102_code
def yX11_inOrder : MethodName := ⟨RX11, "inOrder", "(I)I"⟩
abbrev cX11_wouldRefuse : ByteArray := prog_13_method_103_code
def yX11_wouldRefuse : MethodName := ⟨RX11, "wouldRefuse", "(II)Z"⟩
abbrev cX11_exists : ByteArray := prog_13_method_104_code
def yX11_exists : MethodName := ⟨RX11, "exists", "(II)Z"⟩
abbrev cX11_revisionOf : ByteArray := prog_13_method_105_code
def yX11_revisionOf : MethodName := ⟨RX11, "revisionOf", "(I)I"⟩
abbrev cX11_answers : ByteArray := prog_13_method_106_code
def yX11_answers : MethodName := ⟨RX11, "answers", "(I)I"⟩
abbrev cX11_isShown : ByteArray := prog_13_method_107_code
def yX11_isShown : MethodName := ⟨RX11, "isShown", "(III)Z"⟩
abbrev cX11_inForce : ByteArray := prog_13_method_108_code
def yX11_inForce : MethodName := ⟨RX11, "inForce", "(III)I"⟩
abbrev cX11_open : ByteArray := prog_13_method_109_code
def yX11_open : MethodName := ⟨RX11, "open", "(I)I"⟩
abbrev cX11_completeness : ByteArray := prog_13_method_110_code
def yX11_completeness : MethodName := ⟨RX11, "completeness", "(I)F"⟩
abbrev cX11_average : ByteArray := prog_13_method_111_code
def yX11_average : MethodName := ⟨RX11, "average", "(I)F"⟩
abbrev cX11_tally : ByteArray := prog_13_method_112_code
def yX11_tally : MethodName := ⟨RX11, "tally", "(II)I"⟩
abbrev cX11_rowAt : ByteArray := prog_13_method_113_code
def yX11_rowAt : MethodName := ⟨RX11, "rowAt", "(I)V"⟩
abbrev cX11_stands : ByteArray := prog_13_method_114_code
def yX11_stands : MethodName := ⟨RX11, "stands", "(I)V"⟩
abbrev cX11_isThere : ByteArray := prog_13_method_115_code
def yX11_isThere : MethodName := ⟨RX11, "isThere", "(ZZ)Z"⟩
abbrev cX11_laysOut : ByteArray := prog_13_method_116_code
def yX11_laysOut : MethodName := ⟨RX11, "laysOut", "(ZI)V"⟩
abbrev cX11_placesField : ByteArray := prog_13_method_117_code
def yX11_placesField : MethodName := ⟨RX11, "placesField", "(ZIII)V"⟩
abbrev cX11_isLaid : ByteArray := prog_13_method_118_code
def yX11_isLaid : MethodName := ⟨RX11, "isLaid", "(ZI)Z"⟩
abbrev cX11_formLaid : ByteArray := prog_13_method_119_code
def yX11_formLaid : MethodName := ⟨RX11, "formLaid", "(ZI)I"⟩
abbrev cX11_rows : ByteArray := prog_13_method_120_code
def yX11_rows : MethodName := ⟨RX11, "rows", "(ZI)I"⟩
abbrev cX11_place : ByteArray := prog_13_method_121_code
def yX11_place : MethodName := ⟨RX11, "place", "(ZIIZ)I"⟩
abbrev cX11_pages : ByteArray := prog_13_method_122_code
def yX11_pages : MethodName := ⟨RX11, "pages", "(I)I"⟩
abbrev cX11_startsOut : ByteArray := prog_13_method_123_code
def yX11_startsOut : MethodName := ⟨RX11, "startsOut", "(I)V"⟩
abbrev cX11_says : ByteArray := prog_13_method_124_code
def yX11_says : MethodName := ⟨RX11, "says", "(I)V"⟩
abbrev cX11_saysWord : ByteArray := prog_13_method_125_code
def yX11_saysWord : MethodName := ⟨RX11, "saysWord", "(J)V"⟩
abbrev cX11_saysNumber : ByteArray := prog_13_method_126_code
def yX11_saysNumber : MethodName := ⟨RX11, "saysNumber", "(I)V"⟩
abbrev cX11_saysNode : ByteArray := prog_13_method_127_code
def yX11_saysNode : MethodName := ⟨RX11, "saysNode", "(ZIII)V"⟩
abbrev cX11_saysLayout : ByteArray := prog_13_method_128_code
def yX11_saysLayout : MethodName := ⟨RX11, "saysLayout", "(ZII)V"⟩
abbrev cX11_textLength : ByteArray := prog_13_method_129_code
def yX11_textLength : MethodName := ⟨RX11, "textLength", "(ZI)I"⟩
abbrev cX11_textByte : ByteArray := prog_13_method_130_code
def yX11_textByte : MethodName := ⟨RX11, "textByte", "(ZII)I"⟩
abbrev cX11_plans : ByteArray := prog_13_method_131_code
def yX11_plans : MethodName := ⟨RX11, "plans", "(II)V"⟩
abbrev cX11_saysCondition : ByteArray := prog_13_method_132_code
def yX11_saysCondition : MethodName := ⟨RX11, "saysCondition", "(I)V"⟩
abbrev cX11_saysPart : ByteArray := prog_13_method_133_code
def yX11_saysPart : MethodName := ⟨RX11, "saysPart", "(III)V"⟩
abbrev cX11_saysTest : ByteArray := prog_13_method_134_code
def yX11_saysTest : MethodName := ⟨RX11, "saysTest", "(I)V"⟩
abbrev cX11_saysBoth : ByteArray := prog_13_method_135_code
def yX11_saysBoth : MethodName := ⟨RX11, "saysBoth", "(JI)V"⟩
abbrev cX11_saysIf : ByteArray := prog_13_method_136_code
def yX11_saysIf : MethodName := ⟨RX11, "saysIf", "(I)V"⟩
abbrev cX11_saysField : ByteArray := prog_13_method_137_code
def yX11_saysField : MethodName := ⟨RX11, "saysField", "(I)V"⟩
abbrev cX11_saysSetup : ByteArray := prog_13_method_138_code
def yX11_saysSetup : MethodName := ⟨RX11, "saysSetup", "(I)V"⟩
abbrev cX11_setupLength : ByteArray := prog_13_method_139_code
def yX11_setupLength : MethodName := ⟨RX11, "setupLength", "()I"⟩
abbrev cX11_setupByte : ByteArray := prog_13_method_140_code
def yX11_setupByte : MethodName := ⟨RX11, "setupByte", "(I)I"⟩
abbrev cX11_tapeLength : ByteArray := prog_13_method_141_code
def yX11_tapeLength : MethodName := ⟨RX11, "tapeLength", "()I"⟩
def RJ6 : String := "java/lang/Integer"
def TJ6 : u_T := fun k => match k with
  | _ => ("", "", "", false)
def tyJ6 : Nat → FieldType := fun k => match k with
  | _ => .int
theorem nmJ6 : ∀ a, a < 0 → ∀ b, b < 0 → a ≠ b → (TJ6 a).2.1 ≠ (TJ6 b).2.1 := by decide +kernel
theorem tyJ6_ok : ∀ k, k < 0 → parseFieldDescriptor (TJ6 k).2.2.1 = some (tyJ6 k) := by decide +kernel
abbrev cJ6_bitCount_0f7a4 : ByteArray := prog_14_method_49_code
def yJ6_bitCount_0f7a4 : MethodName := ⟨RJ6, "bitCount", "(I)I"⟩
def RJ9 : String := "java/lang/Math"
def TJ9 : u_T := fun k => match k with
  | _ => ("", "", "", false)
def tyJ9 : Nat → FieldType := fun k => match k with
  | _ => .int
theorem nmJ9 : ∀ a, a < 0 → ∀ b, b < 0 → a ≠ b → (TJ9 a).2.1 ≠ (TJ9 b).2.1 := by decide +kernel
theorem tyJ9_ok : ∀ k, k < 0 → parseFieldDescriptor (TJ9 k).2.2.1 = some (tyJ9 k) := by decide +kernel
abbrev cJ9_floorMod_7cf53 : ByteArray := prog_15_method_50_code
def yJ9_floorMod_7cf53 : MethodName := ⟨RJ9, "floorMod", "(II)I"⟩
abbrev cJ9_min_7cf53 : ByteArray := prog_15_method_69_code
def yJ9_min_7cf53 : MethodName := ⟨RJ9, "min", "(II)I"⟩
def RJ0 : String := "java/lang/String"
def TJ0 : u_T := fun k => match k with
  | _ => ("", "", "", false)
def tyJ0 : Nat → FieldType := fun k => match k with
  | _ => .int
theorem nmJ0 : ∀ a, a < 0 → ∀ b, b < 0 → a ≠ b → (TJ0 a).2.1 ≠ (TJ0 b).2.1 := by decide +kernel
theorem tyJ0_ok : ∀ k, k < 0 → parseFieldDescriptor (TJ0 k).2.2.1 = some (tyJ0 k) := by decide +kernel
abbrev cJ0_length_8abf5 : ByteArray := prog_16_method_54_code
def yJ0_length_8abf5 : MethodName := ⟨RJ0, "length", "()I"⟩
abbrev cJ0_charAt_5068e : ByteArray := prog_16_method_56_code
def yJ0_charAt_5068e : MethodName := ⟨RJ0, "charAt", "(I)C"⟩
abbrev cJ0_coder_7d493 : ByteArray := prog_16_method_152_code
def yJ0_coder_7d493 : MethodName := ⟨RJ0, "coder", "()B"⟩
abbrev cJ0_isLatin1_aae02 : ByteArray := prog_16_method_154_code
def yJ0_isLatin1_aae02 : MethodName := ⟨RJ0, "isLatin1", "()Z"⟩
abbrev cJ0_checkIndex_df160 : ByteArray := prog_16_method_155_code
def yJ0_checkIndex_df160 : MethodName := ⟨RJ0, "checkIndex", "(II)V"⟩
def RJ1 : String := "java/lang/StringLatin1"
def TJ1 : u_T := fun k => match k with
  | _ => ("", "", "", false)
def tyJ1 : Nat → FieldType := fun k => match k with
  | _ => .int
theorem nmJ1 : ∀ a, a < 0 → ∀ b, b < 0 → a ≠ b → (TJ1 a).2.1 ≠ (TJ1 b).2.1 := by decide +kernel
theorem tyJ1_ok : ∀ k, k < 0 → parseFieldDescriptor (TJ1 k).2.2.1 = some (tyJ1 k) := by decide +kernel
abbrev cJ1_charAt_3b067 : ByteArray := prog_17_method_2_code
def yJ1_charAt_3b067 : MethodName := ⟨RJ1, "charAt", "([BI)C"⟩
def RJ2 : String := "java/lang/StringUTF16"
def TJ2 : u_T := fun k => match k with
  | _ => ("", "", "", false)
def tyJ2 : Nat → FieldType := fun k => match k with
  | _ => .int
theorem nmJ2 : ∀ a, a < 0 → ∀ b, b < 0 → a ≠ b → (TJ2 a).2.1 ≠ (TJ2 b).2.1 := by decide +kernel
theorem tyJ2_ok : ∀ k, k < 0 → parseFieldDescriptor (TJ2 k).2.2.1 = some (tyJ2 k) := by decide +kernel
abbrev cJ2_getChar_3b067 : ByteArray := prog_18_method_5_code
def yJ2_getChar_3b067 : MethodName := ⟨RJ2, "getChar", "([BI)C"⟩
abbrev cJ2_length_9d52b : ByteArray := prog_18_method_6_code
def yJ2_length_9d52b : MethodName := ⟨RJ2, "length", "([B)I"⟩
abbrev cJ2_charAt_3b067 : ByteArray := prog_18_method_83_code
def yJ2_charAt_3b067 : MethodName := ⟨RJ2, "charAt", "([BI)C"⟩
abbrev cJ2_checkIndex_2214a : ByteArray := prog_18_method_91_code
def yJ2_checkIndex_2214a : MethodName := ⟨RJ2, "checkIndex", "(I[B)V"⟩
def RJ3 : String := "jdk/internal/util/Preconditions"
def TJ3 : u_T := fun k => match k with
  | _ => ("", "", "", false)
def tyJ3 : Nat → FieldType := fun k => match k with
  | _ => .int
theorem nmJ3 : ∀ a, a < 0 → ∀ b, b < 0 → a ≠ b → (TJ3 a).2.1 ≠ (TJ3 b).2.1 := by decide +kernel
theorem tyJ3_ok : ∀ k, k < 0 → parseFieldDescriptor (TJ3 k).2.2.1 = some (tyJ3 k) := by decide +kernel
abbrev cJ3_checkIndex_8e157 : ByteArray := prog_19_method_11_code
def yJ3_checkIndex_8e157 : MethodName := ⟨RJ3, "checkIndex", "(IILjava/util/function/BiFunction;)I"⟩
def RL : String := "FormDesignerLaw"
abbrev cL_law : ByteArray := code
def yL_law : MethodName := ⟨RL, "law", "([I)Z"⟩
